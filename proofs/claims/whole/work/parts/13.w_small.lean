/-! ===== FlickerDesk$Fit.addCosts(LFlickerDesk$Film;II)V ===== -/
abbrev rmX3_addCosts : Room := { frames := 1, cells := 0, slots := 0, locals := 24 }
abbrev wX3_addCosts (cA : Nat → ClassId) (h_t h_t_costs h_a1 h_a1_dots h_t_least h_a1_cuts h_a1_skips h_a1_settings h_a1_weights : Nat) (f_t_costs : Nat → Int) (v_a1_wide : Int) (v_a1_high : Int) (v_a1_frames : Int) (f_a1_dots : Nat → Int) : va_W := [(h_t, .inr (3, [.ref h_t_costs, .ref h_t_least])), (h_t_costs, zA (cA 0) 256 f_t_costs), (h_a1, .inr (2, [.ref h_a1_dots, .ref h_a1_cuts, .ref h_a1_skips, .ref h_a1_settings, .ref h_a1_weights, .int (iZ v_a1_wide), .int (iZ v_a1_high), .int (iZ v_a1_frames)])), (h_a1_dots, zA (cA 0) 1536 f_a1_dots)]
def fX3_addCosts_b51 (N : Nat) (v_a1_wide : Int) (v_a1_high : Int) (f_a1_dots : Nat → Int) (x2 : Int) (x3 : Int) (rec : Int → Int → Int → Int → (Nat → Int) → Option ((Nat → Int))) (k : Int → (Nat → Int) → Option ((Nat → Int))) (i4 : Int) (i5 : Int) (i6 : Int) (i7 : Int) (f_t_costs : Nat → Int) : Option ((Nat → Int)) := (if iZ i7 < iZ 16 then (gd ((0 : Int) ≤ (i5 * 16) + i7 ∧ (i5 * 16) + i7 < 256) (gd ((0 : Int) ≤ (i5 * 16) + i7 ∧ (i5 * 16) + i7 < 256) (rec i4 i5 i6 (i7 + 1) (uZ f_t_costs ((i5 * 16) + i7).toNat ((f_t_costs ((i5 * 16) + i7).toNat) + (abZ (i7 - i6))))))) else (k i4 f_t_costs))
def fX3_addCosts_L51 (N : Nat) (v_a1_wide : Int) (v_a1_high : Int) (f_a1_dots : Nat → Int) (x2 : Int) (x3 : Int) (k : Int → (Nat → Int) → Option ((Nat → Int))) : Nat → Int → Int → Int → Int → (Nat → Int) → Option ((Nat → Int))
  | 0 => fun _ _ _ _ _ => none
  | n + 1 => fX3_addCosts_b51 N v_a1_wide v_a1_high f_a1_dots x2 x3 (fX3_addCosts_L51 N v_a1_wide v_a1_high f_a1_dots x2 x3 k n) k
def fX3_addCosts_j88 (N : Nat) (v_a1_wide : Int) (v_a1_high : Int) (f_a1_dots : Nat → Int) (x2 : Int) (x3 : Int) (rec : Int → (Nat → Int) → Option ((Nat → Int))) (k : (Nat → Int) → Option ((Nat → Int))) (i4 : Int) (f_t_costs : Nat → Int) : Option ((Nat → Int)) := (rec (i4 + 1) f_t_costs)
def fX3_addCosts_b11 (N : Nat) (v_a1_wide : Int) (v_a1_high : Int) (f_a1_dots : Nat → Int) (x2 : Int) (x3 : Int) (rec : Int → (Nat → Int) → Option ((Nat → Int))) (k : (Nat → Int) → Option ((Nat → Int))) (i4 : Int) (f_t_costs : Nat → Int) : Option ((Nat → Int)) := ((fX2_size N v_a1_wide v_a1_high).bind fun r2 => (if iZ i4 < iZ r2 then (gd ((0 : Int) ≤ (x2 * 64) + i4 ∧ (x2 * 64) + i4 < 1536) (gd ((0 : Int) ≤ (x3 * 64) + i4 ∧ (x3 * 64) + i4 < 1536) (fX3_addCosts_L51 N v_a1_wide v_a1_high f_a1_dots x2 x3 (fX3_addCosts_j88 N v_a1_wide v_a1_high f_a1_dots x2 x3 rec k) N i4 (f_a1_dots ((x2 * 64) + i4).toNat) (f_a1_dots ((x3 * 64) + i4).toNat) 0 f_t_costs))) else (k f_t_costs)))
def fX3_addCosts_L11 (N : Nat) (v_a1_wide : Int) (v_a1_high : Int) (f_a1_dots : Nat → Int) (x2 : Int) (x3 : Int) (k : (Nat → Int) → Option ((Nat → Int))) : Nat → Int → (Nat → Int) → Option ((Nat → Int))
  | 0 => fun _ _ => none
  | n + 1 => fX3_addCosts_b11 N v_a1_wide v_a1_high f_a1_dots x2 x3 (fX3_addCosts_L11 N v_a1_wide v_a1_high f_a1_dots x2 x3 k n) k
def fX3_addCosts_j94 (N : Nat) (v_a1_wide : Int) (v_a1_high : Int) (f_a1_dots : Nat → Int) (x2 : Int) (x3 : Int) (f_t_costs : Nat → Int) : Option ((Nat → Int)) := (some f_t_costs)
def fX3_addCosts (N : Nat) (v_a1_wide : Int) (v_a1_high : Int) (f_a1_dots : Nat → Int) (f_t_costs : Nat → Int) (x2 : Int) (x3 : Int) : Option ((Nat → Int)) := ((fJ7_fill_53178 N 256 f_t_costs 0).bind fun r1 => (fX3_addCosts_L11 N v_a1_wide v_a1_high f_a1_dots x2 x3 (fX3_addCosts_j94 N v_a1_wide v_a1_high f_a1_dots x2 x3) N 0 r1))
abbrev kX3_addCosts (p : Program) (l : Launch) (e : Env) (s : State) (m : MethodId) (args : Array Value) (below : List Frame) (meth : Method) (c : Code) (Q : State → Prop) (G : ZG) (D : va_G) (cA : Nat → ClassId) (A : Nat → Prop) (h_t h_t_costs h_a1 h_a1_dots h_t_least h_a1_cuts h_a1_skips h_a1_settings h_a1_weights : Nat) (v_a1_wide : Int) (v_a1_high : Int) (v_a1_frames : Int) (f_a1_dots : Nat → Int) (x2 : Int) (x3 : Int) (N : Nat) (r : (Nat → Int)) : Prop := ∀ (pc : Nat) (H : Heap) (locs : List Loc) (ls : Array Slot), decode cX3_addCosts pc = .ok (.return_, 1) → va_P D vwCl (wX3_addCosts cA h_t h_t_costs h_a1 h_a1_dots h_t_least h_a1_cuts h_a1_skips h_a1_settings h_a1_weights r v_a1_wide v_a1_high v_a1_frames f_a1_dots) H → va_D A (wX3_addCosts cA h_t h_t_costs h_a1 h_a1_dots h_t_least h_a1_cuts h_a1_skips h_a1_settings h_a1_weights r v_a1_wide v_a1_high v_a1_frames f_a1_dots) → va_S A s.heap H locs → W p l e rmX3_addCosts s m args below meth c H locs 0 0 Q (F0 m pc ls [])
abbrev sX3_addCosts_88 (p : Program) (l : Launch) (e : Env) (s : State) (m : MethodId) (args : Array Value) (below : List Frame) (meth : Method) (c : Code) (Q : State → Prop) (G : ZG) (D : va_G) (cA : Nat → ClassId) (A : Nat → Prop) (h_t h_t_costs h_a1 h_a1_dots h_t_least h_a1_cuts h_a1_skips h_a1_settings h_a1_weights : Nat) (v_a1_wide : Int) (v_a1_high : Int) (v_a1_frames : Int) (f_a1_dots : Nat → Int) (x2 : Int) (x3 : Int) (N : Nat) (i4 : Int) (f_t_costs : Nat → Int) : Prop := ∀ (H : Heap) (locs : List Loc), va_P D vwCl (wX3_addCosts cA h_t h_t_costs h_a1 h_a1_dots h_t_least h_a1_cuts h_a1_skips h_a1_settings h_a1_weights f_t_costs v_a1_wide v_a1_high v_a1_frames f_a1_dots) H → va_D A (wX3_addCosts cA h_t h_t_costs h_a1 h_a1_dots h_t_least h_a1_cuts h_a1_skips h_a1_settings h_a1_weights f_t_costs v_a1_wide v_a1_high v_a1_frames f_a1_dots) → va_S A s.heap H locs → ∀ ls : Array Slot, lv_has ls 8 [(0, .ref h_t), (1, .ref h_a1), (2, .int (iZ x2)), (3, .int (iZ x3)), (4, .int (iZ i4))] → W p l e rmX3_addCosts s m args below meth c H locs 0 0 Q (F0 m 88 ls [])
abbrev sX3_addCosts_51 (p : Program) (l : Launch) (e : Env) (s : State) (m : MethodId) (args : Array Value) (below : List Frame) (meth : Method) (c : Code) (Q : State → Prop) (G : ZG) (D : va_G) (cA : Nat → ClassId) (A : Nat → Prop) (h_t h_t_costs h_a1 h_a1_dots h_t_least h_a1_cuts h_a1_skips h_a1_settings h_a1_weights : Nat) (v_a1_wide : Int) (v_a1_high : Int) (v_a1_frames : Int) (f_a1_dots : Nat → Int) (x2 : Int) (x3 : Int) (N : Nat) (i4 : Int) (i5 : Int) (i6 : Int) (i7 : Int) (f_t_costs : Nat → Int) : Prop := ∀ (H : Heap) (locs : List Loc), va_P D vwCl (wX3_addCosts cA h_t h_t_costs h_a1 h_a1_dots h_t_least h_a1_cuts h_a1_skips h_a1_settings h_a1_weights f_t_costs v_a1_wide v_a1_high v_a1_frames f_a1_dots) H → va_D A (wX3_addCosts cA h_t h_t_costs h_a1 h_a1_dots h_t_least h_a1_cuts h_a1_skips h_a1_settings h_a1_weights f_t_costs v_a1_wide v_a1_high v_a1_frames f_a1_dots) → va_S A s.heap H locs → ∀ ls : Array Slot, lv_has ls 8 [(0, .ref h_t), (1, .ref h_a1), (2, .int (iZ x2)), (3, .int (iZ x3)), (4, .int (iZ i4)), (5, .int (iZ i5)), (6, .int (iZ i6)), (7, .int (iZ i7))] → W p l e rmX3_addCosts s m args below meth c H locs 0 0 Q (F0 m 51 ls [])
abbrev sX3_addCosts_94 (p : Program) (l : Launch) (e : Env) (s : State) (m : MethodId) (args : Array Value) (below : List Frame) (meth : Method) (c : Code) (Q : State → Prop) (G : ZG) (D : va_G) (cA : Nat → ClassId) (A : Nat → Prop) (h_t h_t_costs h_a1 h_a1_dots h_t_least h_a1_cuts h_a1_skips h_a1_settings h_a1_weights : Nat) (v_a1_wide : Int) (v_a1_high : Int) (v_a1_frames : Int) (f_a1_dots : Nat → Int) (x2 : Int) (x3 : Int) (N : Nat) (f_t_costs : Nat → Int) : Prop := ∀ (H : Heap) (locs : List Loc), va_P D vwCl (wX3_addCosts cA h_t h_t_costs h_a1 h_a1_dots h_t_least h_a1_cuts h_a1_skips h_a1_settings h_a1_weights f_t_costs v_a1_wide v_a1_high v_a1_frames f_a1_dots) H → va_D A (wX3_addCosts cA h_t h_t_costs h_a1 h_a1_dots h_t_least h_a1_cuts h_a1_skips h_a1_settings h_a1_weights f_t_costs v_a1_wide v_a1_high v_a1_frames f_a1_dots) → va_S A s.heap H locs → ∀ ls : Array Slot, lv_has ls 8 [] → W p l e rmX3_addCosts s m args below meth c H locs 0 0 Q (F0 m 94 ls [])
abbrev sX3_addCosts_11 (p : Program) (l : Launch) (e : Env) (s : State) (m : MethodId) (args : Array Value) (below : List Frame) (meth : Method) (c : Code) (Q : State → Prop) (G : ZG) (D : va_G) (cA : Nat → ClassId) (A : Nat → Prop) (h_t h_t_costs h_a1 h_a1_dots h_t_least h_a1_cuts h_a1_skips h_a1_settings h_a1_weights : Nat) (v_a1_wide : Int) (v_a1_high : Int) (v_a1_frames : Int) (f_a1_dots : Nat → Int) (x2 : Int) (x3 : Int) (N : Nat) (i4 : Int) (f_t_costs : Nat → Int) : Prop := ∀ (H : Heap) (locs : List Loc), va_P D vwCl (wX3_addCosts cA h_t h_t_costs h_a1 h_a1_dots h_t_least h_a1_cuts h_a1_skips h_a1_settings h_a1_weights f_t_costs v_a1_wide v_a1_high v_a1_frames f_a1_dots) H → va_D A (wX3_addCosts cA h_t h_t_costs h_a1 h_a1_dots h_t_least h_a1_cuts h_a1_skips h_a1_settings h_a1_weights f_t_costs v_a1_wide v_a1_high v_a1_frames f_a1_dots) → va_S A s.heap H locs → ∀ ls : Array Slot, lv_has ls 8 [(0, .ref h_t), (1, .ref h_a1), (2, .int (iZ x2)), (3, .int (iZ x3)), (4, .int (iZ i4))] → W p l e rmX3_addCosts s m args below meth c H locs 0 0 Q (F0 m 11 ls [])
set_option maxHeartbeats 4000000 in
set_option maxRecDepth 100000 in
theorem wX3_addCosts_b51 (p : Program) (l : Launch) (e : Env) (s : State) (m : MethodId) (args : Array Value) (below : List Frame) (meth : Method) (c : Code) (Q : State → Prop) (G : ZG) (D : va_G) (cA : Nat → ClassId) (A : Nat → Prop) (h_t h_t_costs h_a1 h_a1_dots h_t_least h_a1_cuts h_a1_skips h_a1_settings h_a1_weights : Nat) (v_a1_wide : Int) (v_a1_high : Int) (v_a1_frames : Int) (f_a1_dots : Nat → Int) (x2 : Int) (x3 : Int) (N : Nat) (C : CallFix p m c cX3_addCosts 8 s args vX3_addCosts RX3) (hK : va_K D vwCl (zT cA) s) (hA : ∀ q, s.heap.size ≤ q → A q) (hZ : zSt G A s s.heap) (r : (Nat → Int)) (kr : kX3_addCosts p l e s m args below meth c Q G D cA A h_t h_t_costs h_a1 h_a1_dots h_t_least h_a1_cuts h_a1_skips h_a1_settings h_a1_weights v_a1_wide v_a1_high v_a1_frames f_a1_dots x2 x3 N r) (rec : Int → Int → Int → Int → (Nat → Int) → Option ((Nat → Int))) (k : Int → (Nat → Int) → Option ((Nat → Int))) (hrec : ∀ (i4 : Int) (i5 : Int) (i6 : Int) (i7 : Int) (f_t_costs : Nat → Int), rec i4 i5 i6 i7 f_t_costs = some r → sX3_addCosts_51 p l e s m args below meth c Q G D cA A h_t h_t_costs h_a1 h_a1_dots h_t_least h_a1_cuts h_a1_skips h_a1_settings h_a1_weights v_a1_wide v_a1_high v_a1_frames f_a1_dots x2 x3 N i4 i5 i6 i7 f_t_costs) (hk : ∀ (i4 : Int) (f_t_costs : Nat → Int), k i4 f_t_costs = some r → sX3_addCosts_88 p l e s m args below meth c Q G D cA A h_t h_t_costs h_a1 h_a1_dots h_t_least h_a1_cuts h_a1_skips h_a1_settings h_a1_weights v_a1_wide v_a1_high v_a1_frames f_a1_dots x2 x3 N i4 f_t_costs) (i4 : Int) (i5 : Int) (i6 : Int) (i7 : Int) (f_t_costs : Nat → Int) (h : fX3_addCosts_b51 N v_a1_wide v_a1_high f_a1_dots x2 x3 rec k i4 i5 i6 i7 f_t_costs = some r) : sX3_addCosts_51 p l e s m args below meth c Q G D cA A h_t h_t_costs h_a1 h_a1_dots h_t_least h_a1_cuts h_a1_skips h_a1_settings h_a1_weights v_a1_wide v_a1_high v_a1_frames f_a1_dots x2 x3 N i4 i5 i6 i7 f_t_costs := by
  obtain ⟨hx, hb, hml, hown, hts⟩ := id C
  have hq : ∀ w ∈ wAll, w.before args s = true := fun w h => hts w (List.mem_cons_of_mem _ h)
  intro H locs hP hD hS ls hl
  unfold fX3_addCosts_b51 at h
  refine lv_iload hx hb dX3_addCosts_51 (lv_at hl 7 rfl) ?_
  refine z_bipush hx hb dX3_addCosts_53 (by decide) ?_
  refine z_icmp_ge (tgt := 88) hx hb dX3_addCosts_55 (by decide) (fun c6 => ?_) (fun c6 => ?_)
  · rw [if_neg c6] at h
    exact hk i4 f_t_costs h H locs hP hD hS ls (lv_sub hl [0, 1, 2, 3, 4] rfl)
  · rw [if_pos c6] at h
    refine lv_aload_n hx hb dX3_addCosts_58 rfl (lv_at hl 0 rfl) ?_
    refine va_get (D := D) (ci := 3) (v := .ref h_t_costs) (C := RX3) (T := TX3) (N := 2) hx hb hq in_wsX30 hown hK hP 0 rfl rfl 0 (by decide) (hq _ q261) (fun _ h9 => h9) rfl dX3_addCosts_59 ?_
    refine lv_iload hx hb dX3_addCosts_62 (lv_at hl 5 rfl) ?_
    refine z_bipush hx hb dX3_addCosts_64 (by decide) ?_
    refine z_imul hx hb dX3_addCosts_66 ?_
    refine lv_iload hx hb dX3_addCosts_67 (lv_at hl 7 rfl) ?_
    refine z_iadd hx hb dX3_addCosts_69 ?_
    refine lv_dup2_11 hx hb dX3_addCosts_70 rfl rfl ?_
    obtain ⟨g7, h⟩ := gd_some h
    refine z_iald hx hb hK hP 1 0 rfl rfl (Nat.le_of_ble_eq_true rfl) g7 dX3_addCosts_71 ?_
    refine lv_iload hx hb dX3_addCosts_72 (lv_at hl 7 rfl) ?_
    refine lv_iload hx hb dX3_addCosts_74 (lv_at hl 6 rfl) ?_
    refine z_isub hx hb dX3_addCosts_76 ?_
    refine z_mabs hx hb (by rw [hml]; exact hl.1.symm) hown (hq _ q265) (hq _ q150) (hq _ q133) (hq _ q151) (Nat.le_of_ble_eq_true rfl) (Nat.le_of_ble_eq_true rfl) (Nat.zero_le _) (Nat.zero_le _) dX3_addCosts_77 ?_
    refine z_iadd hx hb dX3_addCosts_80 ?_
    obtain ⟨g8, h⟩ := gd_some h
    refine z_iast (ws' := (wX3_addCosts cA h_t h_t_costs h_a1 h_a1_dots h_t_least h_a1_cuts h_a1_skips h_a1_settings h_a1_weights (uZ f_t_costs ((i5 * 16) + i7).toNat ((f_t_costs ((i5 * 16) + i7).toNat) + (abZ (i7 - i6)))) v_a1_wide v_a1_high v_a1_frames f_a1_dots)) hx hb hK hP hD hS 1 0 rfl rfl (Nat.le_of_ble_eq_true rfl) g8 rfl dX3_addCosts_81 (fun H locs hP hD hS => ?_)
    refine z_iinc (lv' := [(7, .int (iZ (i7 + 1))), (0, .ref h_t), (1, .ref h_a1), (2, .int (iZ x2)), (3, .int (iZ x3)), (4, .int (iZ i4)), (5, .int (iZ i5)), (6, .int (iZ i6))]) hx hb dX3_addCosts_82 hl (k := 7) rfl (by decide) rfl (fun ls hl => ?_)
    refine lv_goto (tgt := 51) hx hb dX3_addCosts_85 (by decide) ?_
    exact hrec i4 i5 i6 (i7 + 1) (uZ f_t_costs ((i5 * 16) + i7).toNat ((f_t_costs ((i5 * 16) + i7).toNat) + (abZ (i7 - i6)))) h H locs hP hD hS ls (lv_sub hl [1, 2, 3, 4, 5, 6, 7, 0] rfl)
theorem wX3_addCosts_L51 (p : Program) (l : Launch) (e : Env) (s : State) (m : MethodId) (args : Array Value) (below : List Frame) (meth : Method) (c : Code) (Q : State → Prop) (G : ZG) (D : va_G) (cA : Nat → ClassId) (A : Nat → Prop) (h_t h_t_costs h_a1 h_a1_dots h_t_least h_a1_cuts h_a1_skips h_a1_settings h_a1_weights : Nat) (v_a1_wide : Int) (v_a1_high : Int) (v_a1_frames : Int) (f_a1_dots : Nat → Int) (x2 : Int) (x3 : Int) (N : Nat) (C : CallFix p m c cX3_addCosts 8 s args vX3_addCosts RX3) (hK : va_K D vwCl (zT cA) s) (hA : ∀ q, s.heap.size ≤ q → A q) (hZ : zSt G A s s.heap) (r : (Nat → Int)) (kr : kX3_addCosts p l e s m args below meth c Q G D cA A h_t h_t_costs h_a1 h_a1_dots h_t_least h_a1_cuts h_a1_skips h_a1_settings h_a1_weights v_a1_wide v_a1_high v_a1_frames f_a1_dots x2 x3 N r) (k : Int → (Nat → Int) → Option ((Nat → Int))) (hk : ∀ (i4 : Int) (f_t_costs : Nat → Int), k i4 f_t_costs = some r → sX3_addCosts_88 p l e s m args below meth c Q G D cA A h_t h_t_costs h_a1 h_a1_dots h_t_least h_a1_cuts h_a1_skips h_a1_settings h_a1_weights v_a1_wide v_a1_high v_a1_frames f_a1_dots x2 x3 N i4 f_t_costs) : ∀ (n : Nat) (i4 : Int) (i5 : Int) (i6 : Int) (i7 : Int) (f_t_costs : Nat → Int), fX3_addCosts_L51 N v_a1_wide v_a1_high f_a1_dots x2 x3 k n i4 i5 i6 i7 f_t_costs = some r → sX3_addCosts_51 p l e s m args below meth c Q G D cA A h_t h_t_costs h_a1 h_a1_dots h_t_least h_a1_cuts h_a1_skips h_a1_settings h_a1_weights v_a1_wide v_a1_high v_a1_frames f_a1_dots x2 x3 N i4 i5 i6 i7 f_t_costs := by
  intro n
  induction n with
  | zero =>
    intro i4 i5 i6 i7 f_t_costs h
    have h : none = some r := h
    cases h
  | succ n ih =>
    intro i4 i5 i6 i7 f_t_costs h
    exact wX3_addCosts_b51 p l e s m args below meth c Q G D cA A h_t h_t_costs h_a1 h_a1_dots h_t_least h_a1_cuts h_a1_skips h_a1_settings h_a1_weights v_a1_wide v_a1_high v_a1_frames f_a1_dots x2 x3 N C hK hA hZ r kr (fX3_addCosts_L51 N v_a1_wide v_a1_high f_a1_dots x2 x3 k n) k ih hk i4 i5 i6 i7 f_t_costs h
set_option maxHeartbeats 4000000 in
set_option maxRecDepth 100000 in
theorem wX3_addCosts_j88 (p : Program) (l : Launch) (e : Env) (s : State) (m : MethodId) (args : Array Value) (below : List Frame) (meth : Method) (c : Code) (Q : State → Prop) (G : ZG) (D : va_G) (cA : Nat → ClassId) (A : Nat → Prop) (h_t h_t_costs h_a1 h_a1_dots h_t_least h_a1_cuts h_a1_skips h_a1_settings h_a1_weights : Nat) (v_a1_wide : Int) (v_a1_high : Int) (v_a1_frames : Int) (f_a1_dots : Nat → Int) (x2 : Int) (x3 : Int) (N : Nat) (C : CallFix p m c cX3_addCosts 8 s args vX3_addCosts RX3) (hK : va_K D vwCl (zT cA) s) (hA : ∀ q, s.heap.size ≤ q → A q) (hZ : zSt G A s s.heap) (r : (Nat → Int)) (kr : kX3_addCosts p l e s m args below meth c Q G D cA A h_t h_t_costs h_a1 h_a1_dots h_t_least h_a1_cuts h_a1_skips h_a1_settings h_a1_weights v_a1_wide v_a1_high v_a1_frames f_a1_dots x2 x3 N r) (rec : Int → (Nat → Int) → Option ((Nat → Int))) (k : (Nat → Int) → Option ((Nat → Int))) (hrec : ∀ (i4 : Int) (f_t_costs : Nat → Int), rec i4 f_t_costs = some r → sX3_addCosts_11 p l e s m args below meth c Q G D cA A h_t h_t_costs h_a1 h_a1_dots h_t_least h_a1_cuts h_a1_skips h_a1_settings h_a1_weights v_a1_wide v_a1_high v_a1_frames f_a1_dots x2 x3 N i4 f_t_costs) (hk : ∀ (f_t_costs : Nat → Int), k f_t_costs = some r → sX3_addCosts_94 p l e s m args below meth c Q G D cA A h_t h_t_costs h_a1 h_a1_dots h_t_least h_a1_cuts h_a1_skips h_a1_settings h_a1_weights v_a1_wide v_a1_high v_a1_frames f_a1_dots x2 x3 N f_t_costs) (i4 : Int) (f_t_costs : Nat → Int) (h : fX3_addCosts_j88 N v_a1_wide v_a1_high f_a1_dots x2 x3 rec k i4 f_t_costs = some r) : sX3_addCosts_88 p l e s m args below meth c Q G D cA A h_t h_t_costs h_a1 h_a1_dots h_t_least h_a1_cuts h_a1_skips h_a1_settings h_a1_weights v_a1_wide v_a1_high v_a1_frames f_a1_dots x2 x3 N i4 f_t_costs := by
  obtain ⟨hx, hb, hml, hown, hts⟩ := id C
  have hq : ∀ w ∈ wAll, w.before args s = true := fun w h => hts w (List.mem_cons_of_mem _ h)
  intro H locs hP hD hS ls hl
  unfold fX3_addCosts_j88 at h
  refine z_iinc (lv' := [(4, .int (iZ (i4 + 1))), (0, .ref h_t), (1, .ref h_a1), (2, .int (iZ x2)), (3, .int (iZ x3))]) hx hb dX3_addCosts_88 hl (k := 4) rfl (by decide) rfl (fun ls hl => ?_)
  refine lv_goto (tgt := 11) hx hb dX3_addCosts_91 (by decide) ?_
  exact hrec (i4 + 1) f_t_costs h H locs hP hD hS ls (lv_sub hl [1, 2, 3, 4, 0] rfl)
set_option maxHeartbeats 4000000 in
set_option maxRecDepth 100000 in
theorem wX3_addCosts_b11 (p : Program) (l : Launch) (e : Env) (s : State) (m : MethodId) (args : Array Value) (below : List Frame) (meth : Method) (c : Code) (Q : State → Prop) (G : ZG) (D : va_G) (cA : Nat → ClassId) (A : Nat → Prop) (h_t h_t_costs h_a1 h_a1_dots h_t_least h_a1_cuts h_a1_skips h_a1_settings h_a1_weights : Nat) (v_a1_wide : Int) (v_a1_high : Int) (v_a1_frames : Int) (f_a1_dots : Nat → Int) (x2 : Int) (x3 : Int) (N : Nat) (C : CallFix p m c cX3_addCosts 8 s args vX3_addCosts RX3) (hK : va_K D vwCl (zT cA) s) (hA : ∀ q, s.heap.size ≤ q → A q) (hZ : zSt G A s s.heap) (r : (Nat → Int)) (kr : kX3_addCosts p l e s m args below meth c Q G D cA A h_t h_t_costs h_a1 h_a1_dots h_t_least h_a1_cuts h_a1_skips h_a1_settings h_a1_weights v_a1_wide v_a1_high v_a1_frames f_a1_dots x2 x3 N r) (rec : Int → (Nat → Int) → Option ((Nat → Int))) (k : (Nat → Int) → Option ((Nat → Int))) (hrec : ∀ (i4 : Int) (f_t_costs : Nat → Int), rec i4 f_t_costs = some r → sX3_addCosts_11 p l e s m args below meth c Q G D cA A h_t h_t_costs h_a1 h_a1_dots h_t_least h_a1_cuts h_a1_skips h_a1_settings h_a1_weights v_a1_wide v_a1_high v_a1_frames f_a1_dots x2 x3 N i4 f_t_costs) (hk : ∀ (f_t_costs : Nat → Int), k f_t_costs = some r → sX3_addCosts_94 p l e s m args below meth c Q G D cA A h_t h_t_costs h_a1 h_a1_dots h_t_least h_a1_cuts h_a1_skips h_a1_settings h_a1_weights v_a1_wide v_a1_high v_a1_frames f_a1_dots x2 x3 N f_t_costs) (i4 : Int) (f_t_costs : Nat → Int) (h : fX3_addCosts_b11 N v_a1_wide v_a1_high f_a1_dots x2 x3 rec k i4 f_t_costs = some r) : sX3_addCosts_11 p l e s m args below meth c Q G D cA A h_t h_t_costs h_a1 h_a1_dots h_t_least h_a1_cuts h_a1_skips h_a1_settings h_a1_weights v_a1_wide v_a1_high v_a1_frames f_a1_dots x2 x3 N i4 f_t_costs := by
  obtain ⟨hx, hb, hml, hown, hts⟩ := id C
  have hq : ∀ w ∈ wAll, w.before args s = true := fun w h => hts w (List.mem_cons_of_mem _ h)
  intro H locs hP hD hS ls hl
  unfold fX3_addCosts_b11 at h
  refine lv_iload hx hb dX3_addCosts_11 (lv_at hl 4 rfl) ?_
  refine lv_aload_n hx hb dX3_addCosts_13 rfl (lv_at hl 1 rfl) ?_
  obtain ⟨r2, e2, h⟩ := bd_some h
  refine z_callVi (G := G) (D := D) (cA := cA) (wc := (wX2_size cA h_a1 h_a1_dots h_a1_cuts h_a1_skips h_a1_settings h_a1_weights v_a1_wide v_a1_high v_a1_frames)) (wr := [(h_t, .inr (3, [.ref h_t_costs, .ref h_t_least])), (h_t_costs, zA (cA 0) 256 f_t_costs), (h_a1_dots, zA (cA 0) 1536 f_a1_dots)]) (w1 := (wX2_size cA h_a1 h_a1_dots h_a1_cuts h_a1_skips h_a1_settings h_a1_weights v_a1_wide v_a1_high v_a1_frames)) (ws' := (wX3_addCosts cA h_t h_t_costs h_a1 h_a1_dots h_t_least h_a1_cuts h_a1_skips h_a1_settings h_a1_weights f_t_costs v_a1_wide v_a1_high v_a1_frames f_a1_dots)) (r := r2) (As := []) C hK hA hZ hP hD hS [2] [0, 1, 3] [0, 1, 3, 2] rfl rfl rfl (by decide) (cX2_size_m l G D cA h_a1 h_a1_dots h_a1_cuts h_a1_skips h_a1_settings h_a1_weights v_a1_wide v_a1_high v_a1_frames H.size N e2) (cwV 0 hts (gAllV q267 q106 q107 q24 q88) rfl rfl rfl (by decide +kernel) ⟨Nat.le_of_ble_eq_true rfl, Nat.le_of_ble_eq_true rfl⟩) 2 2 rfl rfl rfl rfl hl.1 rfl (Nat.le_of_ble_eq_true rfl) ⟨Nat.zero_le _, Nat.zero_le _⟩ dX3_addCosts_14 (fun H locs hP hD hS => ?_)
  refine z_icmp_ge (tgt := 94) hx hb dX3_addCosts_17 (by decide) (fun c3 => ?_) (fun c3 => ?_)
  · rw [if_neg c3] at h
    exact hk f_t_costs h H locs hP hD hS ls (lv_sub hl [] rfl)
  · rw [if_pos c3] at h
    refine lv_aload_n hx hb dX3_addCosts_20 rfl (lv_at hl 1 rfl) ?_
    refine va_get (D := D) (ci := 2) (v := .ref h_a1_dots) (C := RX2) (T := TX2) (N := 8) hx hb hq in_wsX20 hown hK hP 2 rfl rfl 0 (by decide) (hq _ q264) (fun _ h9 => h9) rfl dX3_addCosts_21 ?_
    refine lv_iload_n hx hb dX3_addCosts_24 rfl (lv_at hl 2 rfl) ?_
    refine z_bipush hx hb dX3_addCosts_25 (by decide) ?_
    refine z_imul hx hb dX3_addCosts_27 ?_
    refine lv_iload hx hb dX3_addCosts_28 (lv_at hl 4 rfl) ?_
    refine z_iadd hx hb dX3_addCosts_30 ?_
    obtain ⟨g4, h⟩ := gd_some h
    refine z_iald hx hb hK hP 3 0 rfl rfl (Nat.le_of_ble_eq_true rfl) g4 dX3_addCosts_31 ?_
    refine lv_istore (lv' := [(5, .int (iZ (f_a1_dots ((x2 * 64) + i4).toNat))), (0, .ref h_t), (1, .ref h_a1), (2, .int (iZ x2)), (3, .int (iZ x3)), (4, .int (iZ i4))]) hx hb dX3_addCosts_32 hl (by decide) rfl (fun ls hl => ?_)
    refine lv_aload_n hx hb dX3_addCosts_34 rfl (lv_at hl 2 rfl) ?_
    refine va_get (D := D) (ci := 2) (v := .ref h_a1_dots) (C := RX2) (T := TX2) (N := 8) hx hb hq in_wsX20 hown hK hP 2 rfl rfl 0 (by decide) (hq _ q264) (fun _ h9 => h9) rfl dX3_addCosts_35 ?_
    refine lv_iload_n hx hb dX3_addCosts_38 rfl (lv_at hl 4 rfl) ?_
    refine z_bipush hx hb dX3_addCosts_39 (by decide) ?_
    refine z_imul hx hb dX3_addCosts_41 ?_
    refine lv_iload hx hb dX3_addCosts_42 (lv_at hl 5 rfl) ?_
    refine z_iadd hx hb dX3_addCosts_44 ?_
    obtain ⟨g5, h⟩ := gd_some h
    refine z_iald hx hb hK hP 3 0 rfl rfl (Nat.le_of_ble_eq_true rfl) g5 dX3_addCosts_45 ?_
    refine lv_istore (lv' := [(6, .int (iZ (f_a1_dots ((x3 * 64) + i4).toNat))), (5, .int (iZ (f_a1_dots ((x2 * 64) + i4).toNat))), (0, .ref h_t), (1, .ref h_a1), (2, .int (iZ x2)), (3, .int (iZ x3)), (4, .int (iZ i4))]) hx hb dX3_addCosts_46 hl (by decide) rfl (fun ls hl => ?_)
    refine z_iconst hx hb dX3_addCosts_48 ?_
    refine lv_istore (lv' := [(7, .int (iZ 0)), (6, .int (iZ (f_a1_dots ((x3 * 64) + i4).toNat))), (5, .int (iZ (f_a1_dots ((x2 * 64) + i4).toNat))), (0, .ref h_t), (1, .ref h_a1), (2, .int (iZ x2)), (3, .int (iZ x3)), (4, .int (iZ i4))]) hx hb dX3_addCosts_49 hl (by decide) rfl (fun ls hl => ?_)
    exact wX3_addCosts_L51 p l e s m args below meth c Q G D cA A h_t h_t_costs h_a1 h_a1_dots h_t_least h_a1_cuts h_a1_skips h_a1_settings h_a1_weights v_a1_wide v_a1_high v_a1_frames f_a1_dots x2 x3 N C hK hA hZ r kr (fX3_addCosts_j88 N v_a1_wide v_a1_high f_a1_dots x2 x3 rec k) (fun y0 y1 h9 => wX3_addCosts_j88 p l e s m args below meth c Q G D cA A h_t h_t_costs h_a1 h_a1_dots h_t_least h_a1_cuts h_a1_skips h_a1_settings h_a1_weights v_a1_wide v_a1_high v_a1_frames f_a1_dots x2 x3 N C hK hA hZ r kr rec k hrec hk y0 y1 h9) N i4 (f_a1_dots ((x2 * 64) + i4).toNat) (f_a1_dots ((x3 * 64) + i4).toNat) 0 f_t_costs h H locs hP hD hS ls (lv_sub hl [3, 4, 5, 6, 7, 2, 1, 0] rfl)
theorem wX3_addCosts_L11 (p : Program) (l : Launch) (e : Env) (s : State) (m : MethodId) (args : Array Value) (below : List Frame) (meth : Method) (c : Code) (Q : State → Prop) (G : ZG) (D : va_G) (cA : Nat → ClassId) (A : Nat → Prop) (h_t h_t_costs h_a1 h_a1_dots h_t_least h_a1_cuts h_a1_skips h_a1_settings h_a1_weights : Nat) (v_a1_wide : Int) (v_a1_high : Int) (v_a1_frames : Int) (f_a1_dots : Nat → Int) (x2 : Int) (x3 : Int) (N : Nat) (C : CallFix p m c cX3_addCosts 8 s args vX3_addCosts RX3) (hK : va_K D vwCl (zT cA) s) (hA : ∀ q, s.heap.size ≤ q → A q) (hZ : zSt G A s s.heap) (r : (Nat → Int)) (kr : kX3_addCosts p l e s m args below meth c Q G D cA A h_t h_t_costs h_a1 h_a1_dots h_t_least h_a1_cuts h_a1_skips h_a1_settings h_a1_weights v_a1_wide v_a1_high v_a1_frames f_a1_dots x2 x3 N r) (k : (Nat → Int) → Option ((Nat → Int))) (hk : ∀ (f_t_costs : Nat → Int), k f_t_costs = some r → sX3_addCosts_94 p l e s m args below meth c Q G D cA A h_t h_t_costs h_a1 h_a1_dots h_t_least h_a1_cuts h_a1_skips h_a1_settings h_a1_weights v_a1_wide v_a1_high v_a1_frames f_a1_dots x2 x3 N f_t_costs) : ∀ (n : Nat) (i4 : Int) (f_t_costs : Nat → Int), fX3_addCosts_L11 N v_a1_wide v_a1_high f_a1_dots x2 x3 k n i4 f_t_costs = some r → sX3_addCosts_11 p l e s m args below meth c Q G D cA A h_t h_t_costs h_a1 h_a1_dots h_t_least h_a1_cuts h_a1_skips h_a1_settings h_a1_weights v_a1_wide v_a1_high v_a1_frames f_a1_dots x2 x3 N i4 f_t_costs := by
  intro n
  induction n with
  | zero =>
    intro i4 f_t_costs h
    have h : none = some r := h
    cases h
  | succ n ih =>
    intro i4 f_t_costs h
    exact wX3_addCosts_b11 p l e s m args below meth c Q G D cA A h_t h_t_costs h_a1 h_a1_dots h_t_least h_a1_cuts h_a1_skips h_a1_settings h_a1_weights v_a1_wide v_a1_high v_a1_frames f_a1_dots x2 x3 N C hK hA hZ r kr (fX3_addCosts_L11 N v_a1_wide v_a1_high f_a1_dots x2 x3 k n) k ih hk i4 f_t_costs h
set_option maxHeartbeats 4000000 in
set_option maxRecDepth 100000 in
theorem wX3_addCosts_j94 (p : Program) (l : Launch) (e : Env) (s : State) (m : MethodId) (args : Array Value) (below : List Frame) (meth : Method) (c : Code) (Q : State → Prop) (G : ZG) (D : va_G) (cA : Nat → ClassId) (A : Nat → Prop) (h_t h_t_costs h_a1 h_a1_dots h_t_least h_a1_cuts h_a1_skips h_a1_settings h_a1_weights : Nat) (v_a1_wide : Int) (v_a1_high : Int) (v_a1_frames : Int) (f_a1_dots : Nat → Int) (x2 : Int) (x3 : Int) (N : Nat) (C : CallFix p m c cX3_addCosts 8 s args vX3_addCosts RX3) (hK : va_K D vwCl (zT cA) s) (hA : ∀ q, s.heap.size ≤ q → A q) (hZ : zSt G A s s.heap) (r : (Nat → Int)) (kr : kX3_addCosts p l e s m args below meth c Q G D cA A h_t h_t_costs h_a1 h_a1_dots h_t_least h_a1_cuts h_a1_skips h_a1_settings h_a1_weights v_a1_wide v_a1_high v_a1_frames f_a1_dots x2 x3 N r) (f_t_costs : Nat → Int) (h : fX3_addCosts_j94 N v_a1_wide v_a1_high f_a1_dots x2 x3 f_t_costs = some r) : sX3_addCosts_94 p l e s m args below meth c Q G D cA A h_t h_t_costs h_a1 h_a1_dots h_t_least h_a1_cuts h_a1_skips h_a1_settings h_a1_weights v_a1_wide v_a1_high v_a1_frames f_a1_dots x2 x3 N f_t_costs := by
  obtain ⟨hx, hb, hml, hown, hts⟩ := id C
  have hq : ∀ w ∈ wAll, w.before args s = true := fun w h => hts w (List.mem_cons_of_mem _ h)
  intro H locs hP hD hS ls hl
  unfold fX3_addCosts_j94 at h
  cases h
  exact kr _ _ _ _ dX3_addCosts_94 hP hD hS
set_option maxHeartbeats 4000000 in
set_option maxRecDepth 100000 in
theorem wX3_addCosts_E (p : Program) (l : Launch) (e : Env) (s : State) (m : MethodId) (args : Array Value) (below : List Frame) (meth : Method) (c : Code) (Q : State → Prop) (G : ZG) (D : va_G) (cA : Nat → ClassId) (A : Nat → Prop) (h_t h_t_costs h_a1 h_a1_dots h_t_least h_a1_cuts h_a1_skips h_a1_settings h_a1_weights : Nat) (v_a1_wide : Int) (v_a1_high : Int) (v_a1_frames : Int) (f_a1_dots : Nat → Int) (x2 : Int) (x3 : Int) (N : Nat) (C : CallFix p m c cX3_addCosts 8 s args vX3_addCosts RX3) (hK : va_K D vwCl (zT cA) s) (hA : ∀ q, s.heap.size ≤ q → A q) (hZ : zSt G A s s.heap) (r : (Nat → Int)) (kr : kX3_addCosts p l e s m args below meth c Q G D cA A h_t h_t_costs h_a1 h_a1_dots h_t_least h_a1_cuts h_a1_skips h_a1_settings h_a1_weights v_a1_wide v_a1_high v_a1_frames f_a1_dots x2 x3 N r) (f_t_costs : Nat → Int) (h : fX3_addCosts N v_a1_wide v_a1_high f_a1_dots f_t_costs x2 x3 = some r) (H : Heap) (locs : List Loc) (hP : va_P D vwCl (wX3_addCosts cA h_t h_t_costs h_a1 h_a1_dots h_t_least h_a1_cuts h_a1_skips h_a1_settings h_a1_weights f_t_costs v_a1_wide v_a1_high v_a1_frames f_a1_dots) H) (hD : va_D A (wX3_addCosts cA h_t h_t_costs h_a1 h_a1_dots h_t_least h_a1_cuts h_a1_skips h_a1_settings h_a1_weights f_t_costs v_a1_wide v_a1_high v_a1_frames f_a1_dots)) (hS : va_S A s.heap H locs) (ls : Array Slot) (hl : lv_has ls 8 [(0, .ref h_t), (1, .ref h_a1), (2, .int (iZ x2)), (3, .int (iZ x3))]) : W p l e rmX3_addCosts s m args below meth c H locs 0 0 Q (F0 m 0 ls []) := by
  obtain ⟨hx, hb, hml, hown, hts⟩ := id C
  have hq : ∀ w ∈ wAll, w.before args s = true := fun w h => hts w (List.mem_cons_of_mem _ h)
  unfold fX3_addCosts at h
  refine lv_aload_n hx hb dX3_addCosts_0 rfl (lv_at hl 0 rfl) ?_
  refine va_get (D := D) (ci := 3) (v := .ref h_t_costs) (C := RX3) (T := TX3) (N := 2) hx hb hq in_wsX30 hown hK hP 0 rfl rfl 0 (by decide) (hq _ q261) (fun _ h9 => h9) rfl dX3_addCosts_1 ?_
  refine z_iconst hx hb dX3_addCosts_4 ?_
  obtain ⟨r1, e1, h⟩ := bd_some h
  refine z_callSv (G := G) (D := D) (cA := cA) (wc := (wJ7_fill_53178 cA h_t_costs 256 f_t_costs)) (wr := [(h_t, .inr (3, [.ref h_t_costs, .ref h_t_least])), (h_a1, .inr (2, [.ref h_a1_dots, .ref h_a1_cuts, .ref h_a1_skips, .ref h_a1_settings, .ref h_a1_weights, .int (iZ v_a1_wide), .int (iZ v_a1_high), .int (iZ v_a1_frames)])), (h_a1_dots, zA (cA 0) 1536 f_a1_dots)]) (w1 := (wJ7_fill_53178 cA h_t_costs 256 r1)) (ws' := (wX3_addCosts cA h_t h_t_costs h_a1 h_a1_dots h_t_least h_a1_cuts h_a1_skips h_a1_settings h_a1_weights r1 v_a1_wide v_a1_high v_a1_frames f_a1_dots)) (As := [.ref h_t_costs, .int (iZ 0)]) C hK hA hZ hP hD hS [1] [0, 2, 3] [0, 3, 1, 2] rfl rfl rfl (by decide) (cJ7_fill_53178_m l G D cA h_t_costs 256 f_t_costs 0 H.size N (Nat.le_of_ble_eq_true rfl) e1) (va_cwS 2 hts (gAllS q266 q14 q15 q0) rfl rfl rfl (by decide +kernel) ⟨Nat.le_of_ble_eq_true rfl, Nat.le_of_ble_eq_true rfl⟩) rfl hl.1 rfl (Nat.le_of_ble_eq_true rfl) ⟨Nat.zero_le _, Nat.zero_le _⟩ dX3_addCosts_5 (fun H locs hP hD hS => ?_)
  refine z_iconst hx hb dX3_addCosts_8 ?_
  refine lv_istore (lv' := [(4, .int (iZ 0)), (0, .ref h_t), (1, .ref h_a1), (2, .int (iZ x2)), (3, .int (iZ x3))]) hx hb dX3_addCosts_9 hl (by decide) rfl (fun ls hl => ?_)
  exact wX3_addCosts_L11 p l e s m args below meth c Q G D cA A h_t h_t_costs h_a1 h_a1_dots h_t_least h_a1_cuts h_a1_skips h_a1_settings h_a1_weights v_a1_wide v_a1_high v_a1_frames f_a1_dots x2 x3 N C hK hA hZ r kr (fX3_addCosts_j94 N v_a1_wide v_a1_high f_a1_dots x2 x3) (fun y0 h9 => wX3_addCosts_j94 p l e s m args below meth c Q G D cA A h_t h_t_costs h_a1 h_a1_dots h_t_least h_a1_cuts h_a1_skips h_a1_settings h_a1_weights v_a1_wide v_a1_high v_a1_frames f_a1_dots x2 x3 N C hK hA hZ r kr y0 h9) N 0 r1 h H locs hP hD hS ls (lv_sub hl [1, 2, 3, 4, 0] rfl)
set_option maxHeartbeats 4000000 in
set_option maxRecDepth 100000 in
theorem cX3_addCosts_m (l : Launch) (G : ZG) (D : va_G) (cA : Nat → ClassId) (h_t h_t_costs h_a1 h_a1_dots h_t_least h_a1_cuts h_a1_skips h_a1_settings h_a1_weights : Nat) (f_t_costs : Nat → Int) (v_a1_wide : Int) (v_a1_high : Int) (v_a1_frames : Int) (f_a1_dots : Nat → Int) (x2 : Int) (x3 : Int) (sz N : Nat) {r : (Nat → Int)} (hF : fX3_addCosts N v_a1_wide v_a1_high f_a1_dots f_t_costs x2 x3 = some r) : zMv l yX3_addCosts vX3_addCosts rmX3_addCosts G D cA [.ref h_t, .ref h_a1, .int (iZ x2), .int (iZ x3)] (wX3_addCosts cA h_t h_t_costs h_a1 h_a1_dots h_t_least h_a1_cuts h_a1_skips h_a1_settings h_a1_weights f_t_costs v_a1_wide v_a1_high v_a1_frames f_a1_dots) (wX3_addCosts cA h_t h_t_costs h_a1 h_a1_dots h_t_least h_a1_cuts h_a1_skips h_a1_settings h_a1_weights r v_a1_wide v_a1_high v_a1_frames f_a1_dots) sz := by
  refine Met.ofW (cc := cX3_addCosts) (maxL := 8) (ret := none) (by decide) rfl ?_
  intro p e s m args below meth c s₁ B hml hv
  obtain ⟨rfl, hsz, hP, hK, hD0, hZ⟩ := hv
  subst hsz
  have hlocks := B.notSynchronized
  have hl := lv_entry ([.ref h_t, .ref h_a1, .int (iZ x2), .int (iZ x3)]) (n := 8) (Nat.le_of_ble_eq_true rfl)
  rw [lg_entry_eq]
  generalize (lg_sl ([.ref h_t, .ref h_a1, .int (iZ x2), .int (iZ x3)]) ++ List.replicate (8 - (lg_sl ([.ref h_t, .ref h_a1, .int (iZ x2), .int (iZ x3)])).length) Slot.unset).toArray = ls at hl ⊢
  exact wX3_addCosts_E p l e s m _ below meth c _ G D cA _ h_t h_t_costs h_a1 h_a1_dots h_t_least h_a1_cuts h_a1_skips h_a1_settings h_a1_weights v_a1_wide v_a1_high v_a1_frames f_a1_dots x2 x3 N ⟨B.exec, B.bytes, hml, findClass_of_methodNamed B.named, atoms_spec (ws := vX3_addCosts) B.pre⟩ hK (fun q h => Or.inr h) hZ r (fun pc H locs ls hd hP hD hS => W.vret B.exec B.bytes B.returns (fun t ht hW => ⟨⟨(), rfl, trivial, by rw [ht]; exact hP, va_K.moved hW.alike hK, hD⟩, hS.F ht⟩) hS.2.2 hd) f_t_costs hF s.heap [] hP (hD0.self (sz := s.heap.size)) va_S.rf ls hl

/-! ===== FlickerDesk$Fit.costBy(II)I ===== -/
abbrev rmX3_costBy : Room := { frames := 0, cells := 0, slots := 0, locals := 0 }
abbrev wX3_costBy (cA : Nat → ClassId) (h_t h_t_costs h_t_least : Nat) (f_t_costs : Nat → Int) (f_t_least : Nat → Int) : va_W := [(h_t, .inr (3, [.ref h_t_costs, .ref h_t_least])), (h_t_costs, zA (cA 0) 256 f_t_costs), (h_t_least, zA (cA 0) 272 f_t_least)]
def fX3_costBy (N : Nat) (f_t_costs : Nat → Int) (f_t_least : Nat → Int) (x1 : Int) (x2 : Int) : Option (Int) := (gd ((0 : Int) ≤ (x1 * 16) + x2 ∧ (x1 * 16) + x2 < 256) (gd ((0 : Int) ≤ ((x1 + 1) * 16) + x2 ∧ ((x1 + 1) * 16) + x2 < 272) (some ((f_t_costs ((x1 * 16) + x2).toNat) + (f_t_least (((x1 + 1) * 16) + x2).toNat)))))
abbrev kX3_costBy (p : Program) (l : Launch) (e : Env) (s : State) (m : MethodId) (args : Array Value) (below : List Frame) (meth : Method) (c : Code) (Q : State → Prop) (G : ZG) (D : va_G) (cA : Nat → ClassId) (A : Nat → Prop) (h_t h_t_costs h_t_least : Nat) (f_t_costs : Nat → Int) (f_t_least : Nat → Int) (x1 : Int) (x2 : Int) (N : Nat) (r : Int) : Prop := ∀ (pc : Nat) (H : Heap) (locs : List Loc) (ls : Array Slot), decode cX3_costBy pc = .ok (.ireturn, 1) → va_P D vwCl (wX3_costBy cA h_t h_t_costs h_t_least f_t_costs f_t_least) H → va_D A (wX3_costBy cA h_t h_t_costs h_t_least f_t_costs f_t_least) → va_S A s.heap H locs → W p l e rmX3_costBy s m args below meth c H locs 0 0 Q (F0 m pc ls [.int (iZ r)])
set_option maxHeartbeats 4000000 in
set_option maxRecDepth 100000 in
theorem wX3_costBy_E (p : Program) (l : Launch) (e : Env) (s : State) (m : MethodId) (args : Array Value) (below : List Frame) (meth : Method) (c : Code) (Q : State → Prop) (G : ZG) (D : va_G) (cA : Nat → ClassId) (A : Nat → Prop) (h_t h_t_costs h_t_least : Nat) (f_t_costs : Nat → Int) (f_t_least : Nat → Int) (x1 : Int) (x2 : Int) (N : Nat) (C : CallFix p m c cX3_costBy 3 s args vX3_costBy RX3) (hK : va_K D vwCl (zT cA) s) (hA : ∀ q, s.heap.size ≤ q → A q) (hZ : zSt G A s s.heap) (r : Int) (kr : kX3_costBy p l e s m args below meth c Q G D cA A h_t h_t_costs h_t_least f_t_costs f_t_least x1 x2 N r) (h : fX3_costBy N f_t_costs f_t_least x1 x2 = some r) (H : Heap) (locs : List Loc) (hP : va_P D vwCl (wX3_costBy cA h_t h_t_costs h_t_least f_t_costs f_t_least) H) (hD : va_D A (wX3_costBy cA h_t h_t_costs h_t_least f_t_costs f_t_least)) (hS : va_S A s.heap H locs) (ls : Array Slot) (hl : lv_has ls 3 [(0, .ref h_t), (1, .int (iZ x1)), (2, .int (iZ x2))]) : W p l e rmX3_costBy s m args below meth c H locs 0 0 Q (F0 m 0 ls []) := by
  obtain ⟨hx, hb, hml, hown, hts⟩ := id C
  have hq : ∀ w ∈ wAll, w.before args s = true := fun w h => hts w (List.mem_cons_of_mem _ h)
  unfold fX3_costBy at h
  refine lv_aload_n hx hb dX3_costBy_0 rfl (lv_at hl 0 rfl) ?_
  refine va_get (D := D) (ci := 3) (v := .ref h_t_costs) (C := RX3) (T := TX3) (N := 2) hx hb hq in_wsX30 hown hK hP 0 rfl rfl 0 (by decide) (hq _ q261) (fun _ h9 => h9) rfl dX3_costBy_1 ?_
  refine lv_iload_n hx hb dX3_costBy_4 rfl (lv_at hl 1 rfl) ?_
  refine z_bipush hx hb dX3_costBy_5 (by decide) ?_
  refine z_imul hx hb dX3_costBy_7 ?_
  refine lv_iload_n hx hb dX3_costBy_8 rfl (lv_at hl 2 rfl) ?_
  refine z_iadd hx hb dX3_costBy_9 ?_
  obtain ⟨g1, h⟩ := gd_some h
  refine z_iald hx hb hK hP 1 0 rfl rfl (Nat.le_of_ble_eq_true rfl) g1 dX3_costBy_10 ?_
  refine lv_aload_n hx hb dX3_costBy_11 rfl (lv_at hl 0 rfl) ?_
  refine va_get (D := D) (ci := 3) (v := .ref h_t_least) (C := RX3) (T := TX3) (N := 2) hx hb hq in_wsX30 hown hK hP 0 rfl rfl 1 (by decide) (hq _ q262) (fun _ h9 => h9) rfl dX3_costBy_12 ?_
  refine lv_iload_n hx hb dX3_costBy_15 rfl (lv_at hl 1 rfl) ?_
  refine z_iconst hx hb dX3_costBy_16 ?_
  refine z_iadd hx hb dX3_costBy_17 ?_
  refine z_bipush hx hb dX3_costBy_18 (by decide) ?_
  refine z_imul hx hb dX3_costBy_20 ?_
  refine lv_iload_n hx hb dX3_costBy_21 rfl (lv_at hl 2 rfl) ?_
  refine z_iadd hx hb dX3_costBy_22 ?_
  obtain ⟨g2, h⟩ := gd_some h
  refine z_iald hx hb hK hP 2 0 rfl rfl (Nat.le_of_ble_eq_true rfl) g2 dX3_costBy_23 ?_
  refine z_iadd hx hb dX3_costBy_24 ?_
  cases h
  exact kr _ _ _ _ dX3_costBy_25 hP hD hS
set_option maxHeartbeats 4000000 in
set_option maxRecDepth 100000 in
theorem cX3_costBy_m (l : Launch) (G : ZG) (D : va_G) (cA : Nat → ClassId) (h_t h_t_costs h_t_least : Nat) (f_t_costs : Nat → Int) (f_t_least : Nat → Int) (x1 : Int) (x2 : Int) (sz N : Nat) {r : Int} (hF : fX3_costBy N f_t_costs f_t_least x1 x2 = some r) : zMi l yX3_costBy vX3_costBy rmX3_costBy G D cA [.ref h_t, .int (iZ x1), .int (iZ x2)] (wX3_costBy cA h_t h_t_costs h_t_least f_t_costs f_t_least) (wX3_costBy cA h_t h_t_costs h_t_least f_t_costs f_t_least) r sz := by
  refine Met.ofW (cc := cX3_costBy) (maxL := 3) (ret := (some .int)) (by decide) rfl ?_
  intro p e s m args below meth c s₁ B hml hv
  obtain ⟨rfl, hsz, hP, hK, hD0, hZ⟩ := hv
  subst hsz
  have hlocks := B.notSynchronized
  have hl := lv_entry ([.ref h_t, .int (iZ x1), .int (iZ x2)]) (n := 3) (Nat.le_of_ble_eq_true rfl)
  rw [lg_entry_eq]
  generalize (lg_sl ([.ref h_t, .int (iZ x1), .int (iZ x2)]) ++ List.replicate (3 - (lg_sl ([.ref h_t, .int (iZ x1), .int (iZ x2)])).length) Slot.unset).toArray = ls at hl ⊢
  exact wX3_costBy_E p l e s m _ below meth c _ G D cA _ h_t h_t_costs h_t_least f_t_costs f_t_least x1 x2 N ⟨B.exec, B.bytes, hml, findClass_of_methodNamed B.named, atoms_spec (ws := vX3_costBy) B.pre⟩ hK (fun q h => Or.inr h) hZ r (fun pc H locs ls hd hP hD hS => W.iret B.exec B.bytes B.returns (fun t ht hW => ⟨⟨_, (), rfl, rfl, by rw [ht]; exact hP, va_K.moved hW.alike hK, hD⟩, hS.F ht⟩) hS.2.2 hd) hF s.heap [] hP (hD0.self (sz := s.heap.size)) va_S.rf ls hl

/-! ===== FlickerDesk$Fit.work(LFlickerDesk$Film;II)V ===== -/
abbrev rmX3_work : Room := { frames := 2, cells := 0, slots := 0, locals := 51 }
abbrev wX3_work (cA : Nat → ClassId) (h_t h_t_costs h_a1 h_a1_dots h_t_least h_a1_cuts h_a1_skips h_a1_settings h_a1_weights : Nat) (f_t_costs : Nat → Int) (v_a1_wide : Int) (v_a1_high : Int) (v_a1_frames : Int) (f_a1_dots : Nat → Int) (f_t_least : Nat → Int) : va_W := [(h_t, .inr (3, [.ref h_t_costs, .ref h_t_least])), (h_t_costs, zA (cA 0) 256 f_t_costs), (h_a1, .inr (2, [.ref h_a1_dots, .ref h_a1_cuts, .ref h_a1_skips, .ref h_a1_settings, .ref h_a1_weights, .int (iZ v_a1_wide), .int (iZ v_a1_high), .int (iZ v_a1_frames)])), (h_a1_dots, zA (cA 0) 1536 f_a1_dots), (h_t_least, zA (cA 0) 272 f_t_least)]
def fX3_work_b24 (N : Nat) (v_a1_wide : Int) (v_a1_high : Int) (f_a1_dots : Nat → Int) (x2 : Int) (x3 : Int) (rec : Int → Int → Int → (Nat → Int) → (Nat → Int) → Option ((Nat → Int) × (Nat → Int))) (k : Int → (Nat → Int) → (Nat → Int) → Option ((Nat → Int) × (Nat → Int))) (i4 : Int) (i5 : Int) (i6 : Int) (f_t_costs : Nat → Int) (f_t_least : Nat → Int) : Option ((Nat → Int) × (Nat → Int)) := (if iZ i6 < iZ 0 then (k i4 f_t_costs f_t_least) else ((fX3_costBy N f_t_costs f_t_least i4 i6).bind fun r4 => (gd ((0 : Int) ≤ (i4 * 16) + i6 ∧ (i4 * 16) + i6 < 272) (rec i4 (mnZ i5 r4) (i6 + (-1)) f_t_costs (uZ f_t_least ((i4 * 16) + i6).toNat (mnZ i5 r4))))))
def fX3_work_L24 (N : Nat) (v_a1_wide : Int) (v_a1_high : Int) (f_a1_dots : Nat → Int) (x2 : Int) (x3 : Int) (k : Int → (Nat → Int) → (Nat → Int) → Option ((Nat → Int) × (Nat → Int))) : Nat → Int → Int → Int → (Nat → Int) → (Nat → Int) → Option ((Nat → Int) × (Nat → Int))
  | 0 => fun _ _ _ _ _ => none
  | n + 1 => fX3_work_b24 N v_a1_wide v_a1_high f_a1_dots x2 x3 (fX3_work_L24 N v_a1_wide v_a1_high f_a1_dots x2 x3 k n) k
def fX3_work_j65 (N : Nat) (v_a1_wide : Int) (v_a1_high : Int) (f_a1_dots : Nat → Int) (x2 : Int) (x3 : Int) (rec : Int → (Nat → Int) → (Nat → Int) → Option ((Nat → Int) × (Nat → Int))) (k : (Nat → Int) → (Nat → Int) → Option ((Nat → Int) × (Nat → Int))) (i4 : Int) (f_t_costs : Nat → Int) (f_t_least : Nat → Int) : Option ((Nat → Int) × (Nat → Int)) := (rec (i4 + (-1)) f_t_costs f_t_least)
def fX3_work_b11 (N : Nat) (v_a1_wide : Int) (v_a1_high : Int) (f_a1_dots : Nat → Int) (x2 : Int) (x3 : Int) (rec : Int → (Nat → Int) → (Nat → Int) → Option ((Nat → Int) × (Nat → Int))) (k : (Nat → Int) → (Nat → Int) → Option ((Nat → Int) × (Nat → Int))) (i4 : Int) (f_t_costs : Nat → Int) (f_t_least : Nat → Int) : Option ((Nat → Int) × (Nat → Int)) := (if iZ i4 < iZ 0 then (k f_t_costs f_t_least) else (fX3_work_L24 N v_a1_wide v_a1_high f_a1_dots x2 x3 (fX3_work_j65 N v_a1_wide v_a1_high f_a1_dots x2 x3 rec k) N i4 1000000 15 f_t_costs f_t_least))
def fX3_work_L11 (N : Nat) (v_a1_wide : Int) (v_a1_high : Int) (f_a1_dots : Nat → Int) (x2 : Int) (x3 : Int) (k : (Nat → Int) → (Nat → Int) → Option ((Nat → Int) × (Nat → Int))) : Nat → Int → (Nat → Int) → (Nat → Int) → Option ((Nat → Int) × (Nat → Int))
  | 0 => fun _ _ _ => none
  | n + 1 => fX3_work_b11 N v_a1_wide v_a1_high f_a1_dots x2 x3 (fX3_work_L11 N v_a1_wide v_a1_high f_a1_dots x2 x3 k n) k
def fX3_work_j71 (N : Nat) (v_a1_wide : Int) (v_a1_high : Int) (f_a1_dots : Nat → Int) (x2 : Int) (x3 : Int) (f_t_costs : Nat → Int) (f_t_least : Nat → Int) : Option ((Nat → Int) × (Nat → Int)) := (some ((f_t_costs, f_t_least)))
def fX3_work (N : Nat) (v_a1_wide : Int) (v_a1_high : Int) (f_a1_dots : Nat → Int) (f_t_costs : Nat → Int) (f_t_least : Nat → Int) (x2 : Int) (x3 : Int) : Option ((Nat → Int) × (Nat → Int)) := ((fX3_addCosts N v_a1_wide v_a1_high f_a1_dots f_t_costs x2 x3).bind fun r1 => (fX3_work_L11 N v_a1_wide v_a1_high f_a1_dots x2 x3 (fX3_work_j71 N v_a1_wide v_a1_high f_a1_dots x2 x3) N 15 r1 f_t_least))
abbrev kX3_work (p : Program) (l : Launch) (e : Env) (s : State) (m : MethodId) (args : Array Value) (below : List Frame) (meth : Method) (c : Code) (Q : State → Prop) (G : ZG) (D : va_G) (cA : Nat → ClassId) (A : Nat → Prop) (h_t h_t_costs h_a1 h_a1_dots h_t_least h_a1_cuts h_a1_skips h_a1_settings h_a1_weights : Nat) (v_a1_wide : Int) (v_a1_high : Int) (v_a1_frames : Int) (f_a1_dots : Nat → Int) (x2 : Int) (x3 : Int) (N : Nat) (r : (Nat → Int) × (Nat → Int)) : Prop := ∀ (pc : Nat) (H : Heap) (locs : List Loc) (ls : Array Slot), decode cX3_work pc = .ok (.return_, 1) → va_P D vwCl (wX3_work cA h_t h_t_costs h_a1 h_a1_dots h_t_least h_a1_cuts h_a1_skips h_a1_settings h_a1_weights r.1 v_a1_wide v_a1_high v_a1_frames f_a1_dots r.2) H → va_D A (wX3_work cA h_t h_t_costs h_a1 h_a1_dots h_t_least h_a1_cuts h_a1_skips h_a1_settings h_a1_weights r.1 v_a1_wide v_a1_high v_a1_frames f_a1_dots r.2) → va_S A s.heap H locs → W p l e rmX3_work s m args below meth c H locs 0 0 Q (F0 m pc ls [])
abbrev sX3_work_65 (p : Program) (l : Launch) (e : Env) (s : State) (m : MethodId) (args : Array Value) (below : List Frame) (meth : Method) (c : Code) (Q : State → Prop) (G : ZG) (D : va_G) (cA : Nat → ClassId) (A : Nat → Prop) (h_t h_t_costs h_a1 h_a1_dots h_t_least h_a1_cuts h_a1_skips h_a1_settings h_a1_weights : Nat) (v_a1_wide : Int) (v_a1_high : Int) (v_a1_frames : Int) (f_a1_dots : Nat → Int) (x2 : Int) (x3 : Int) (N : Nat) (i4 : Int) (f_t_costs : Nat → Int) (f_t_least : Nat → Int) : Prop := ∀ (H : Heap) (locs : List Loc), va_P D vwCl (wX3_work cA h_t h_t_costs h_a1 h_a1_dots h_t_least h_a1_cuts h_a1_skips h_a1_settings h_a1_weights f_t_costs v_a1_wide v_a1_high v_a1_frames f_a1_dots f_t_least) H → va_D A (wX3_work cA h_t h_t_costs h_a1 h_a1_dots h_t_least h_a1_cuts h_a1_skips h_a1_settings h_a1_weights f_t_costs v_a1_wide v_a1_high v_a1_frames f_a1_dots f_t_least) → va_S A s.heap H locs → ∀ ls : Array Slot, lv_has ls 7 [(0, .ref h_t), (4, .int (iZ i4))] → W p l e rmX3_work s m args below meth c H locs 0 0 Q (F0 m 65 ls [])
abbrev sX3_work_24 (p : Program) (l : Launch) (e : Env) (s : State) (m : MethodId) (args : Array Value) (below : List Frame) (meth : Method) (c : Code) (Q : State → Prop) (G : ZG) (D : va_G) (cA : Nat → ClassId) (A : Nat → Prop) (h_t h_t_costs h_a1 h_a1_dots h_t_least h_a1_cuts h_a1_skips h_a1_settings h_a1_weights : Nat) (v_a1_wide : Int) (v_a1_high : Int) (v_a1_frames : Int) (f_a1_dots : Nat → Int) (x2 : Int) (x3 : Int) (N : Nat) (i4 : Int) (i5 : Int) (i6 : Int) (f_t_costs : Nat → Int) (f_t_least : Nat → Int) : Prop := ∀ (H : Heap) (locs : List Loc), va_P D vwCl (wX3_work cA h_t h_t_costs h_a1 h_a1_dots h_t_least h_a1_cuts h_a1_skips h_a1_settings h_a1_weights f_t_costs v_a1_wide v_a1_high v_a1_frames f_a1_dots f_t_least) H → va_D A (wX3_work cA h_t h_t_costs h_a1 h_a1_dots h_t_least h_a1_cuts h_a1_skips h_a1_settings h_a1_weights f_t_costs v_a1_wide v_a1_high v_a1_frames f_a1_dots f_t_least) → va_S A s.heap H locs → ∀ ls : Array Slot, lv_has ls 7 [(0, .ref h_t), (4, .int (iZ i4)), (5, .int (iZ i5)), (6, .int (iZ i6))] → W p l e rmX3_work s m args below meth c H locs 0 0 Q (F0 m 24 ls [])
abbrev sX3_work_71 (p : Program) (l : Launch) (e : Env) (s : State) (m : MethodId) (args : Array Value) (below : List Frame) (meth : Method) (c : Code) (Q : State → Prop) (G : ZG) (D : va_G) (cA : Nat → ClassId) (A : Nat → Prop) (h_t h_t_costs h_a1 h_a1_dots h_t_least h_a1_cuts h_a1_skips h_a1_settings h_a1_weights : Nat) (v_a1_wide : Int) (v_a1_high : Int) (v_a1_frames : Int) (f_a1_dots : Nat → Int) (x2 : Int) (x3 : Int) (N : Nat) (f_t_costs : Nat → Int) (f_t_least : Nat → Int) : Prop := ∀ (H : Heap) (locs : List Loc), va_P D vwCl (wX3_work cA h_t h_t_costs h_a1 h_a1_dots h_t_least h_a1_cuts h_a1_skips h_a1_settings h_a1_weights f_t_costs v_a1_wide v_a1_high v_a1_frames f_a1_dots f_t_least) H → va_D A (wX3_work cA h_t h_t_costs h_a1 h_a1_dots h_t_least h_a1_cuts h_a1_skips h_a1_settings h_a1_weights f_t_costs v_a1_wide v_a1_high v_a1_frames f_a1_dots f_t_least) → va_S A s.heap H locs → ∀ ls : Array Slot, lv_has ls 7 [] → W p l e rmX3_work s m args below meth c H locs 0 0 Q (F0 m 71 ls [])
abbrev sX3_work_11 (p : Program) (l : Launch) (e : Env) (s : State) (m : MethodId) (args : Array Value) (below : List Frame) (meth : Method) (c : Code) (Q : State → Prop) (G : ZG) (D : va_G) (cA : Nat → ClassId) (A : Nat → Prop) (h_t h_t_costs h_a1 h_a1_dots h_t_least h_a1_cuts h_a1_skips h_a1_settings h_a1_weights : Nat) (v_a1_wide : Int) (v_a1_high : Int) (v_a1_frames : Int) (f_a1_dots : Nat → Int) (x2 : Int) (x3 : Int) (N : Nat) (i4 : Int) (f_t_costs : Nat → Int) (f_t_least : Nat → Int) : Prop := ∀ (H : Heap) (locs : List Loc), va_P D vwCl (wX3_work cA h_t h_t_costs h_a1 h_a1_dots h_t_least h_a1_cuts h_a1_skips h_a1_settings h_a1_weights f_t_costs v_a1_wide v_a1_high v_a1_frames f_a1_dots f_t_least) H → va_D A (wX3_work cA h_t h_t_costs h_a1 h_a1_dots h_t_least h_a1_cuts h_a1_skips h_a1_settings h_a1_weights f_t_costs v_a1_wide v_a1_high v_a1_frames f_a1_dots f_t_least) → va_S A s.heap H locs → ∀ ls : Array Slot, lv_has ls 7 [(0, .ref h_t), (4, .int (iZ i4))] → W p l e rmX3_work s m args below meth c H locs 0 0 Q (F0 m 11 ls [])
set_option maxHeartbeats 4000000 in
set_option maxRecDepth 100000 in
theorem wX3_work_b24 (p : Program) (l : Launch) (e : Env) (s : State) (m : MethodId) (args : Array Value) (below : List Frame) (meth : Method) (c : Code) (Q : State → Prop) (G : ZG) (D : va_G) (cA : Nat → ClassId) (A : Nat → Prop) (h_t h_t_costs h_a1 h_a1_dots h_t_least h_a1_cuts h_a1_skips h_a1_settings h_a1_weights : Nat) (v_a1_wide : Int) (v_a1_high : Int) (v_a1_frames : Int) (f_a1_dots : Nat → Int) (x2 : Int) (x3 : Int) (N : Nat) (C : CallFix p m c cX3_work 7 s args vX3_work RX3) (hK : va_K D vwCl (zT cA) s) (hA : ∀ q, s.heap.size ≤ q → A q) (hZ : zSt G A s s.heap) (r : (Nat → Int) × (Nat → Int)) (kr : kX3_work p l e s m args below meth c Q G D cA A h_t h_t_costs h_a1 h_a1_dots h_t_least h_a1_cuts h_a1_skips h_a1_settings h_a1_weights v_a1_wide v_a1_high v_a1_frames f_a1_dots x2 x3 N r) (rec : Int → Int → Int → (Nat → Int) → (Nat → Int) → Option ((Nat → Int) × (Nat → Int))) (k : Int → (Nat → Int) → (Nat → Int) → Option ((Nat → Int) × (Nat → Int))) (hrec : ∀ (i4 : Int) (i5 : Int) (i6 : Int) (f_t_costs : Nat → Int) (f_t_least : Nat → Int), rec i4 i5 i6 f_t_costs f_t_least = some r → sX3_work_24 p l e s m args below meth c Q G D cA A h_t h_t_costs h_a1 h_a1_dots h_t_least h_a1_cuts h_a1_skips h_a1_settings h_a1_weights v_a1_wide v_a1_high v_a1_frames f_a1_dots x2 x3 N i4 i5 i6 f_t_costs f_t_least) (hk : ∀ (i4 : Int) (f_t_costs : Nat → Int) (f_t_least : Nat → Int), k i4 f_t_costs f_t_least = some r → sX3_work_65 p l e s m args below meth c Q G D cA A h_t h_t_costs h_a1 h_a1_dots h_t_least h_a1_cuts h_a1_skips h_a1_settings h_a1_weights v_a1_wide v_a1_high v_a1_frames f_a1_dots x2 x3 N i4 f_t_costs f_t_least) (i4 : Int) (i5 : Int) (i6 : Int) (f_t_costs : Nat → Int) (f_t_least : Nat → Int) (h : fX3_work_b24 N v_a1_wide v_a1_high f_a1_dots x2 x3 rec k i4 i5 i6 f_t_costs f_t_least = some r) : sX3_work_24 p l e s m args below meth c Q G D cA A h_t h_t_costs h_a1 h_a1_dots h_t_least h_a1_cuts h_a1_skips h_a1_settings h_a1_weights v_a1_wide v_a1_high v_a1_frames f_a1_dots x2 x3 N i4 i5 i6 f_t_costs f_t_least := by
  obtain ⟨hx, hb, hml, hown, hts⟩ := id C
  have hq : ∀ w ∈ wAll, w.before args s = true := fun w h => hts w (List.mem_cons_of_mem _ h)
  intro H locs hP hD hS ls hl
  unfold fX3_work_b24 at h
  refine lv_iload hx hb dX3_work_24 (lv_at hl 3 rfl) ?_
  refine z_if_lt (tgt := 65) hx hb dX3_work_26 (by decide) (fun c3 => ?_) (fun c3 => ?_)
  · rw [if_pos c3] at h
    exact hk i4 f_t_costs f_t_least h H locs hP hD hS ls (lv_sub hl [0, 1] rfl)
  · rw [if_neg c3] at h
    refine lv_iload hx hb dX3_work_29 (lv_at hl 2 rfl) ?_
    refine lv_aload_n hx hb dX3_work_31 rfl (lv_at hl 0 rfl) ?_
    refine lv_iload hx hb dX3_work_32 (lv_at hl 1 rfl) ?_
    refine lv_iload hx hb dX3_work_34 (lv_at hl 3 rfl) ?_
    obtain ⟨r4, e4, h⟩ := bd_some h
    refine z_callVi (G := G) (D := D) (cA := cA) (wc := (wX3_costBy cA h_t h_t_costs h_t_least f_t_costs f_t_least)) (wr := [(h_a1, .inr (2, [.ref h_a1_dots, .ref h_a1_cuts, .ref h_a1_skips, .ref h_a1_settings, .ref h_a1_weights, .int (iZ v_a1_wide), .int (iZ v_a1_high), .int (iZ v_a1_frames)])), (h_a1_dots, zA (cA 0) 1536 f_a1_dots)]) (w1 := (wX3_costBy cA h_t h_t_costs h_t_least f_t_costs f_t_least)) (ws' := (wX3_work cA h_t h_t_costs h_a1 h_a1_dots h_t_least h_a1_cuts h_a1_skips h_a1_settings h_a1_weights f_t_costs v_a1_wide v_a1_high v_a1_frames f_a1_dots f_t_least)) (r := r4) (As := [.int (iZ i4), .int (iZ i6)]) C hK hA hZ hP hD hS [0, 1, 4] [2, 3] [2, 3, 0, 1, 4] rfl rfl rfl (by decide) (cX3_costBy_m l G D cA h_t h_t_costs h_t_least f_t_costs f_t_least i4 i6 H.size N e4) (cwV 2 hts (gAllV q275 q276 q277 q274 q268) rfl rfl rfl (by decide +kernel) ⟨Nat.le_of_ble_eq_true rfl, Nat.le_of_ble_eq_true rfl⟩) 0 3 rfl rfl rfl rfl hl.1 rfl (Nat.le_of_ble_eq_true rfl) ⟨Nat.zero_le _, Nat.zero_le _⟩ dX3_work_36 (fun H locs hP hD hS => ?_)
    refine z_mmin hx hb (by rw [hml]; exact hl.1.symm) hown (hq _ q270) (hq _ q141) (hq _ q133) (hq _ q142) (Nat.le_of_ble_eq_true rfl) (Nat.le_of_ble_eq_true rfl) (Nat.zero_le _) (Nat.zero_le _) dX3_work_39 ?_
    refine lv_istore (lv' := [(5, .int (iZ (mnZ i5 r4))), (0, .ref h_t), (4, .int (iZ i4)), (6, .int (iZ i6))]) hx hb dX3_work_42 hl (by decide) rfl (fun ls hl => ?_)
    refine lv_aload_n hx hb dX3_work_44 rfl (lv_at hl 1 rfl) ?_
    refine va_get (D := D) (ci := 3) (v := .ref h_t_least) (C := RX3) (T := TX3) (N := 2) hx hb hq in_wsX30 hown hK hP 0 rfl rfl 1 (by decide) (hq _ q262) (fun _ h9 => h9) rfl dX3_work_45 ?_
    refine lv_iload hx hb dX3_work_48 (lv_at hl 2 rfl) ?_
    refine z_bipush hx hb dX3_work_50 (by decide) ?_
    refine z_imul hx hb dX3_work_52 ?_
    refine lv_iload hx hb dX3_work_53 (lv_at hl 3 rfl) ?_
    refine z_iadd hx hb dX3_work_55 ?_
    refine lv_iload hx hb dX3_work_56 (lv_at hl 0 rfl) ?_
    obtain ⟨g5, h⟩ := gd_some h
    refine z_iast (ws' := (wX3_work cA h_t h_t_costs h_a1 h_a1_dots h_t_least h_a1_cuts h_a1_skips h_a1_settings h_a1_weights f_t_costs v_a1_wide v_a1_high v_a1_frames f_a1_dots (uZ f_t_least ((i4 * 16) + i6).toNat (mnZ i5 r4)))) hx hb hK hP hD hS 4 0 rfl rfl (Nat.le_of_ble_eq_true rfl) g5 rfl dX3_work_58 (fun H locs hP hD hS => ?_)
    refine z_iinc (lv' := [(6, .int (iZ (i6 + (-1)))), (5, .int (iZ (mnZ i5 r4))), (0, .ref h_t), (4, .int (iZ i4))]) hx hb dX3_work_59 hl (k := 3) rfl (by decide) rfl (fun ls hl => ?_)
    refine lv_goto (tgt := 24) hx hb dX3_work_62 (by decide) ?_
    exact hrec i4 (mnZ i5 r4) (i6 + (-1)) f_t_costs (uZ f_t_least ((i4 * 16) + i6).toNat (mnZ i5 r4)) h H locs hP hD hS ls (lv_sub hl [2, 3, 1, 0] rfl)
theorem wX3_work_L24 (p : Program) (l : Launch) (e : Env) (s : State) (m : MethodId) (args : Array Value) (below : List Frame) (meth : Method) (c : Code) (Q : State → Prop) (G : ZG) (D : va_G) (cA : Nat → ClassId) (A : Nat → Prop) (h_t h_t_costs h_a1 h_a1_dots h_t_least h_a1_cuts h_a1_skips h_a1_settings h_a1_weights : Nat) (v_a1_wide : Int) (v_a1_high : Int) (v_a1_frames : Int) (f_a1_dots : Nat → Int) (x2 : Int) (x3 : Int) (N : Nat) (C : CallFix p m c cX3_work 7 s args vX3_work RX3) (hK : va_K D vwCl (zT cA) s) (hA : ∀ q, s.heap.size ≤ q → A q) (hZ : zSt G A s s.heap) (r : (Nat → Int) × (Nat → Int)) (kr : kX3_work p l e s m args below meth c Q G D cA A h_t h_t_costs h_a1 h_a1_dots h_t_least h_a1_cuts h_a1_skips h_a1_settings h_a1_weights v_a1_wide v_a1_high v_a1_frames f_a1_dots x2 x3 N r) (k : Int → (Nat → Int) → (Nat → Int) → Option ((Nat → Int) × (Nat → Int))) (hk : ∀ (i4 : Int) (f_t_costs : Nat → Int) (f_t_least : Nat → Int), k i4 f_t_costs f_t_least = some r → sX3_work_65 p l e s m args below meth c Q G D cA A h_t h_t_costs h_a1 h_a1_dots h_t_least h_a1_cuts h_a1_skips h_a1_settings h_a1_weights v_a1_wide v_a1_high v_a1_frames f_a1_dots x2 x3 N i4 f_t_costs f_t_least) : ∀ (n : Nat) (i4 : Int) (i5 : Int) (i6 : Int) (f_t_costs : Nat → Int) (f_t_least : Nat → Int), fX3_work_L24 N v_a1_wide v_a1_high f_a1_dots x2 x3 k n i4 i5 i6 f_t_costs f_t_least = some r → sX3_work_24 p l e s m args below meth c Q G D cA A h_t h_t_costs h_a1 h_a1_dots h_t_least h_a1_cuts h_a1_skips h_a1_settings h_a1_weights v_a1_wide v_a1_high v_a1_frames f_a1_dots x2 x3 N i4 i5 i6 f_t_costs f_t_least := by
  intro n
  induction n with
  | zero =>
    intro i4 i5 i6 f_t_costs f_t_least h
    have h : none = some r := h
    cases h
  | succ n ih =>
    intro i4 i5 i6 f_t_costs f_t_least h
    exact wX3_work_b24 p l e s m args below meth c Q G D cA A h_t h_t_costs h_a1 h_a1_dots h_t_least h_a1_cuts h_a1_skips h_a1_settings h_a1_weights v_a1_wide v_a1_high v_a1_frames f_a1_dots x2 x3 N C hK hA hZ r kr (fX3_work_L24 N v_a1_wide v_a1_high f_a1_dots x2 x3 k n) k ih hk i4 i5 i6 f_t_costs f_t_least h
set_option maxHeartbeats 4000000 in
set_option maxRecDepth 100000 in
theorem wX3_work_j65 (p : Program) (l : Launch) (e : Env) (s : State) (m : MethodId) (args : Array Value) (below : List Frame) (meth : Method) (c : Code) (Q : State → Prop) (G : ZG) (D : va_G) (cA : Nat → ClassId) (A : Nat → Prop) (h_t h_t_costs h_a1 h_a1_dots h_t_least h_a1_cuts h_a1_skips h_a1_settings h_a1_weights : Nat) (v_a1_wide : Int) (v_a1_high : Int) (v_a1_frames : Int) (f_a1_dots : Nat → Int) (x2 : Int) (x3 : Int) (N : Nat) (C : CallFix p m c cX3_work 7 s args vX3_work RX3) (hK : va_K D vwCl (zT cA) s) (hA : ∀ q, s.heap.size ≤ q → A q) (hZ : zSt G A s s.heap) (r : (Nat → Int) × (Nat → Int)) (kr : kX3_work p l e s m args below meth c Q G D cA A h_t h_t_costs h_a1 h_a1_dots h_t_least h_a1_cuts h_a1_skips h_a1_settings h_a1_weights v_a1_wide v_a1_high v_a1_frames f_a1_dots x2 x3 N r) (rec : Int → (Nat → Int) → (Nat → Int) → Option ((Nat → Int) × (Nat → Int))) (k : (Nat → Int) → (Nat → Int) → Option ((Nat → Int) × (Nat → Int))) (hrec : ∀ (i4 : Int) (f_t_costs : Nat → Int) (f_t_least : Nat → Int), rec i4 f_t_costs f_t_least = some r → sX3_work_11 p l e s m args below meth c Q G D cA A h_t h_t_costs h_a1 h_a1_dots h_t_least h_a1_cuts h_a1_skips h_a1_settings h_a1_weights v_a1_wide v_a1_high v_a1_frames f_a1_dots x2 x3 N i4 f_t_costs f_t_least) (hk : ∀ (f_t_costs : Nat → Int) (f_t_least : Nat → Int), k f_t_costs f_t_least = some r → sX3_work_71 p l e s m args below meth c Q G D cA A h_t h_t_costs h_a1 h_a1_dots h_t_least h_a1_cuts h_a1_skips h_a1_settings h_a1_weights v_a1_wide v_a1_high v_a1_frames f_a1_dots x2 x3 N f_t_costs f_t_least) (i4 : Int) (f_t_costs : Nat → Int) (f_t_least : Nat → Int) (h : fX3_work_j65 N v_a1_wide v_a1_high f_a1_dots x2 x3 rec k i4 f_t_costs f_t_least = some r) : sX3_work_65 p l e s m args below meth c Q G D cA A h_t h_t_costs h_a1 h_a1_dots h_t_least h_a1_cuts h_a1_skips h_a1_settings h_a1_weights v_a1_wide v_a1_high v_a1_frames f_a1_dots x2 x3 N i4 f_t_costs f_t_least := by
  obtain ⟨hx, hb, hml, hown, hts⟩ := id C
  have hq : ∀ w ∈ wAll, w.before args s = true := fun w h => hts w (List.mem_cons_of_mem _ h)
  intro H locs hP hD hS ls hl
  unfold fX3_work_j65 at h
  refine z_iinc (lv' := [(4, .int (iZ (i4 + (-1)))), (0, .ref h_t)]) hx hb dX3_work_65 hl (k := 1) rfl (by decide) rfl (fun ls hl => ?_)
  refine lv_goto (tgt := 11) hx hb dX3_work_68 (by decide) ?_
  exact hrec (i4 + (-1)) f_t_costs f_t_least h H locs hP hD hS ls (lv_sub hl [1, 0] rfl)
set_option maxHeartbeats 4000000 in
set_option maxRecDepth 100000 in
theorem wX3_work_b11 (p : Program) (l : Launch) (e : Env) (s : State) (m : MethodId) (args : Array Value) (below : List Frame) (meth : Method) (c : Code) (Q : State → Prop) (G : ZG) (D : va_G) (cA : Nat → ClassId) (A : Nat → Prop) (h_t h_t_costs h_a1 h_a1_dots h_t_least h_a1_cuts h_a1_skips h_a1_settings h_a1_weights : Nat) (v_a1_wide : Int) (v_a1_high : Int) (v_a1_frames : Int) (f_a1_dots : Nat → Int) (x2 : Int) (x3 : Int) (N : Nat) (C : CallFix p m c cX3_work 7 s args vX3_work RX3) (hK : va_K D vwCl (zT cA) s) (hA : ∀ q, s.heap.size ≤ q → A q) (hZ : zSt G A s s.heap) (r : (Nat → Int) × (Nat → Int)) (kr : kX3_work p l e s m args below meth c Q G D cA A h_t h_t_costs h_a1 h_a1_dots h_t_least h_a1_cuts h_a1_skips h_a1_settings h_a1_weights v_a1_wide v_a1_high v_a1_frames f_a1_dots x2 x3 N r) (rec : Int → (Nat → Int) → (Nat → Int) → Option ((Nat → Int) × (Nat → Int))) (k : (Nat → Int) → (Nat → Int) → Option ((Nat → Int) × (Nat → Int))) (hrec : ∀ (i4 : Int) (f_t_costs : Nat → Int) (f_t_least : Nat → Int), rec i4 f_t_costs f_t_least = some r → sX3_work_11 p l e s m args below meth c Q G D cA A h_t h_t_costs h_a1 h_a1_dots h_t_least h_a1_cuts h_a1_skips h_a1_settings h_a1_weights v_a1_wide v_a1_high v_a1_frames f_a1_dots x2 x3 N i4 f_t_costs f_t_least) (hk : ∀ (f_t_costs : Nat → Int) (f_t_least : Nat → Int), k f_t_costs f_t_least = some r → sX3_work_71 p l e s m args below meth c Q G D cA A h_t h_t_costs h_a1 h_a1_dots h_t_least h_a1_cuts h_a1_skips h_a1_settings h_a1_weights v_a1_wide v_a1_high v_a1_frames f_a1_dots x2 x3 N f_t_costs f_t_least) (i4 : Int) (f_t_costs : Nat → Int) (f_t_least : Nat → Int) (h : fX3_work_b11 N v_a1_wide v_a1_high f_a1_dots x2 x3 rec k i4 f_t_costs f_t_least = some r) : sX3_work_11 p l e s m args below meth c Q G D cA A h_t h_t_costs h_a1 h_a1_dots h_t_least h_a1_cuts h_a1_skips h_a1_settings h_a1_weights v_a1_wide v_a1_high v_a1_frames f_a1_dots x2 x3 N i4 f_t_costs f_t_least := by
  obtain ⟨hx, hb, hml, hown, hts⟩ := id C
  have hq : ∀ w ∈ wAll, w.before args s = true := fun w h => hts w (List.mem_cons_of_mem _ h)
  intro H locs hP hD hS ls hl
  unfold fX3_work_b11 at h
  refine lv_iload hx hb dX3_work_11 (lv_at hl 1 rfl) ?_
  refine z_if_lt (tgt := 71) hx hb dX3_work_13 (by decide) (fun c2 => ?_) (fun c2 => ?_)
  · rw [if_pos c2] at h
    exact hk f_t_costs f_t_least h H locs hP hD hS ls (lv_sub hl [] rfl)
  · rw [if_neg c2] at h
    refine z_ldc (v := 1000000) (n := 1000000) (by decide) hx hb hown (hq _ q269) dX3_work_16 ?_
    refine lv_istore (lv' := [(5, .int (iZ 1000000)), (0, .ref h_t), (4, .int (iZ i4))]) hx hb dX3_work_18 hl (by decide) rfl (fun ls hl => ?_)
    refine z_bipush hx hb dX3_work_20 (by decide) ?_
    refine lv_istore (lv' := [(6, .int (iZ 15)), (5, .int (iZ 1000000)), (0, .ref h_t), (4, .int (iZ i4))]) hx hb dX3_work_22 hl (by decide) rfl (fun ls hl => ?_)
    exact wX3_work_L24 p l e s m args below meth c Q G D cA A h_t h_t_costs h_a1 h_a1_dots h_t_least h_a1_cuts h_a1_skips h_a1_settings h_a1_weights v_a1_wide v_a1_high v_a1_frames f_a1_dots x2 x3 N C hK hA hZ r kr (fX3_work_j65 N v_a1_wide v_a1_high f_a1_dots x2 x3 rec k) (fun y0 y1 y2 h9 => wX3_work_j65 p l e s m args below meth c Q G D cA A h_t h_t_costs h_a1 h_a1_dots h_t_least h_a1_cuts h_a1_skips h_a1_settings h_a1_weights v_a1_wide v_a1_high v_a1_frames f_a1_dots x2 x3 N C hK hA hZ r kr rec k hrec hk y0 y1 y2 h9) N i4 1000000 15 f_t_costs f_t_least h H locs hP hD hS ls (lv_sub hl [2, 3, 1, 0] rfl)
theorem wX3_work_L11 (p : Program) (l : Launch) (e : Env) (s : State) (m : MethodId) (args : Array Value) (below : List Frame) (meth : Method) (c : Code) (Q : State → Prop) (G : ZG) (D : va_G) (cA : Nat → ClassId) (A : Nat → Prop) (h_t h_t_costs h_a1 h_a1_dots h_t_least h_a1_cuts h_a1_skips h_a1_settings h_a1_weights : Nat) (v_a1_wide : Int) (v_a1_high : Int) (v_a1_frames : Int) (f_a1_dots : Nat → Int) (x2 : Int) (x3 : Int) (N : Nat) (C : CallFix p m c cX3_work 7 s args vX3_work RX3) (hK : va_K D vwCl (zT cA) s) (hA : ∀ q, s.heap.size ≤ q → A q) (hZ : zSt G A s s.heap) (r : (Nat → Int) × (Nat → Int)) (kr : kX3_work p l e s m args below meth c Q G D cA A h_t h_t_costs h_a1 h_a1_dots h_t_least h_a1_cuts h_a1_skips h_a1_settings h_a1_weights v_a1_wide v_a1_high v_a1_frames f_a1_dots x2 x3 N r) (k : (Nat → Int) → (Nat → Int) → Option ((Nat → Int) × (Nat → Int))) (hk : ∀ (f_t_costs : Nat → Int) (f_t_least : Nat → Int), k f_t_costs f_t_least = some r → sX3_work_71 p l e s m args below meth c Q G D cA A h_t h_t_costs h_a1 h_a1_dots h_t_least h_a1_cuts h_a1_skips h_a1_settings h_a1_weights v_a1_wide v_a1_high v_a1_frames f_a1_dots x2 x3 N f_t_costs f_t_least) : ∀ (n : Nat) (i4 : Int) (f_t_costs : Nat → Int) (f_t_least : Nat → Int), fX3_work_L11 N v_a1_wide v_a1_high f_a1_dots x2 x3 k n i4 f_t_costs f_t_least = some r → sX3_work_11 p l e s m args below meth c Q G D cA A h_t h_t_costs h_a1 h_a1_dots h_t_least h_a1_cuts h_a1_skips h_a1_settings h_a1_weights v_a1_wide v_a1_high v_a1_frames f_a1_dots x2 x3 N i4 f_t_costs f_t_least := by
  intro n
  induction n with
  | zero =>
    intro i4 f_t_costs f_t_least h
    have h : none = some r := h
    cases h
  | succ n ih =>
    intro i4 f_t_costs f_t_least h
    exact wX3_work_b11 p l e s m args below meth c Q G D cA A h_t h_t_costs h_a1 h_a1_dots h_t_least h_a1_cuts h_a1_skips h_a1_settings h_a1_weights v_a1_wide v_a1_high v_a1_frames f_a1_dots x2 x3 N C hK hA hZ r kr (fX3_work_L11 N v_a1_wide v_a1_high f_a1_dots x2 x3 k n) k ih hk i4 f_t_costs f_t_least h
set_option maxHeartbeats 4000000 in
set_option maxRecDepth 100000 in
theorem wX3_work_j71 (p : Program) (l : Launch) (e : Env) (s : State) (m : MethodId) (args : Array Value) (below : List Frame) (meth : Method) (c : Code) (Q : State → Prop) (G : ZG) (D : va_G) (cA : Nat → ClassId) (A : Nat → Prop) (h_t h_t_costs h_a1 h_a1_dots h_t_least h_a1_cuts h_a1_skips h_a1_settings h_a1_weights : Nat) (v_a1_wide : Int) (v_a1_high : Int) (v_a1_frames : Int) (f_a1_dots : Nat → Int) (x2 : Int) (x3 : Int) (N : Nat) (C : CallFix p m c cX3_work 7 s args vX3_work RX3) (hK : va_K D vwCl (zT cA) s) (hA : ∀ q, s.heap.size ≤ q → A q) (hZ : zSt G A s s.heap) (r : (Nat → Int) × (Nat → Int)) (kr : kX3_work p l e s m args below meth c Q G D cA A h_t h_t_costs h_a1 h_a1_dots h_t_least h_a1_cuts h_a1_skips h_a1_settings h_a1_weights v_a1_wide v_a1_high v_a1_frames f_a1_dots x2 x3 N r) (f_t_costs : Nat → Int) (f_t_least : Nat → Int) (h : fX3_work_j71 N v_a1_wide v_a1_high f_a1_dots x2 x3 f_t_costs f_t_least = some r) : sX3_work_71 p l e s m args below meth c Q G D cA A h_t h_t_costs h_a1 h_a1_dots h_t_least h_a1_cuts h_a1_skips h_a1_settings h_a1_weights v_a1_wide v_a1_high v_a1_frames f_a1_dots x2 x3 N f_t_costs f_t_least := by
  obtain ⟨hx, hb, hml, hown, hts⟩ := id C
  have hq : ∀ w ∈ wAll, w.before args s = true := fun w h => hts w (List.mem_cons_of_mem _ h)
  intro H locs hP hD hS ls hl
  unfold fX3_work_j71 at h
  cases h
  exact kr _ _ _ _ dX3_work_71 hP hD hS
set_option maxHeartbeats 4000000 in
set_option maxRecDepth 100000 in
theorem wX3_work_E (p : Program) (l : Launch) (e : Env) (s : State) (m : MethodId) (args : Array Value) (below : List Frame) (meth : Method) (c : Code) (Q : State → Prop) (G : ZG) (D : va_G) (cA : Nat → ClassId) (A : Nat → Prop) (h_t h_t_costs h_a1 h_a1_dots h_t_least h_a1_cuts h_a1_skips h_a1_settings h_a1_weights : Nat) (v_a1_wide : Int) (v_a1_high : Int) (v_a1_frames : Int) (f_a1_dots : Nat → Int) (x2 : Int) (x3 : Int) (N : Nat) (C : CallFix p m c cX3_work 7 s args vX3_work RX3) (hK : va_K D vwCl (zT cA) s) (hA : ∀ q, s.heap.size ≤ q → A q) (hZ : zSt G A s s.heap) (r : (Nat → Int) × (Nat → Int)) (kr : kX3_work p l e s m args below meth c Q G D cA A h_t h_t_costs h_a1 h_a1_dots h_t_least h_a1_cuts h_a1_skips h_a1_settings h_a1_weights v_a1_wide v_a1_high v_a1_frames f_a1_dots x2 x3 N r) (f_t_costs : Nat → Int) (f_t_least : Nat → Int) (h : fX3_work N v_a1_wide v_a1_high f_a1_dots f_t_costs f_t_least x2 x3 = some r) (H : Heap) (locs : List Loc) (hP : va_P D vwCl (wX3_work cA h_t h_t_costs h_a1 h_a1_dots h_t_least h_a1_cuts h_a1_skips h_a1_settings h_a1_weights f_t_costs v_a1_wide v_a1_high v_a1_frames f_a1_dots f_t_least) H) (hD : va_D A (wX3_work cA h_t h_t_costs h_a1 h_a1_dots h_t_least h_a1_cuts h_a1_skips h_a1_settings h_a1_weights f_t_costs v_a1_wide v_a1_high v_a1_frames f_a1_dots f_t_least)) (hS : va_S A s.heap H locs) (ls : Array Slot) (hl : lv_has ls 7 [(0, .ref h_t), (1, .ref h_a1), (2, .int (iZ x2)), (3, .int (iZ x3))]) : W p l e rmX3_work s m args below meth c H locs 0 0 Q (F0 m 0 ls []) := by
  obtain ⟨hx, hb, hml, hown, hts⟩ := id C
  have hq : ∀ w ∈ wAll, w.before args s = true := fun w h => hts w (List.mem_cons_of_mem _ h)
  unfold fX3_work at h
  refine lv_aload_n hx hb dX3_work_0 rfl (lv_at hl 0 rfl) ?_
  refine lv_aload_n hx hb dX3_work_1 rfl (lv_at hl 1 rfl) ?_
  refine lv_iload_n hx hb dX3_work_2 rfl (lv_at hl 2 rfl) ?_
  refine lv_iload_n hx hb dX3_work_3 rfl (lv_at hl 3 rfl) ?_
  obtain ⟨r1, e1, h⟩ := bd_some h
  refine z_callVv (G := G) (D := D) (cA := cA) (wc := (wX3_addCosts cA h_t h_t_costs h_a1 h_a1_dots h_t_least h_a1_cuts h_a1_skips h_a1_settings h_a1_weights f_t_costs v_a1_wide v_a1_high v_a1_frames f_a1_dots)) (wr := [(h_t_least, zA (cA 0) 272 f_t_least)]) (w1 := (wX3_addCosts cA h_t h_t_costs h_a1 h_a1_dots h_t_least h_a1_cuts h_a1_skips h_a1_settings h_a1_weights r1 v_a1_wide v_a1_high v_a1_frames f_a1_dots)) (ws' := (wX3_work cA h_t h_t_costs h_a1 h_a1_dots h_t_least h_a1_cuts h_a1_skips h_a1_settings h_a1_weights r1 v_a1_wide v_a1_high v_a1_frames f_a1_dots f_t_least)) (As := [.ref h_a1, .int (iZ x2), .int (iZ x3)]) C hK hA hZ hP hD hS [0, 1, 2, 3] [4] [1, 2, 3, 4, 0] rfl rfl rfl (by decide) (cX3_addCosts_m l G D cA h_t h_t_costs h_a1 h_a1_dots h_t_least h_a1_cuts h_a1_skips h_a1_settings h_a1_weights f_t_costs v_a1_wide v_a1_high v_a1_frames f_a1_dots x2 x3 H.size N e1) (cwV 3 hts (gAllV q271 q272 q273 q274 q263) rfl rfl rfl (by decide +kernel) ⟨Nat.le_of_ble_eq_true rfl, Nat.le_of_ble_eq_true rfl⟩) 0 3 rfl rfl rfl rfl hl.1 rfl (Nat.le_of_ble_eq_true rfl) ⟨Nat.zero_le _, Nat.zero_le _⟩ dX3_work_4 (fun H locs hP hD hS => ?_)
  refine z_bipush hx hb dX3_work_7 (by decide) ?_
  refine lv_istore (lv' := [(4, .int (iZ 15)), (0, .ref h_t), (1, .ref h_a1), (2, .int (iZ x2)), (3, .int (iZ x3))]) hx hb dX3_work_9 hl (by decide) rfl (fun ls hl => ?_)
  exact wX3_work_L11 p l e s m args below meth c Q G D cA A h_t h_t_costs h_a1 h_a1_dots h_t_least h_a1_cuts h_a1_skips h_a1_settings h_a1_weights v_a1_wide v_a1_high v_a1_frames f_a1_dots x2 x3 N C hK hA hZ r kr (fX3_work_j71 N v_a1_wide v_a1_high f_a1_dots x2 x3) (fun y0 y1 h9 => wX3_work_j71 p l e s m args below meth c Q G D cA A h_t h_t_costs h_a1 h_a1_dots h_t_least h_a1_cuts h_a1_skips h_a1_settings h_a1_weights v_a1_wide v_a1_high v_a1_frames f_a1_dots x2 x3 N C hK hA hZ r kr y0 y1 h9) N 15 r1 f_t_least h H locs hP hD hS ls (lv_sub hl [1, 0] rfl)
set_option maxHeartbeats 4000000 in
set_option maxRecDepth 100000 in
theorem cX3_work_m (l : Launch) (G : ZG) (D : va_G) (cA : Nat → ClassId) (h_t h_t_costs h_a1 h_a1_dots h_t_least h_a1_cuts h_a1_skips h_a1_settings h_a1_weights : Nat) (f_t_costs : Nat → Int) (v_a1_wide : Int) (v_a1_high : Int) (v_a1_frames : Int) (f_a1_dots : Nat → Int) (f_t_least : Nat → Int) (x2 : Int) (x3 : Int) (sz N : Nat) {r : (Nat → Int) × (Nat → Int)} (hF : fX3_work N v_a1_wide v_a1_high f_a1_dots f_t_costs f_t_least x2 x3 = some r) : zMv l yX3_work vX3_work rmX3_work G D cA [.ref h_t, .ref h_a1, .int (iZ x2), .int (iZ x3)] (wX3_work cA h_t h_t_costs h_a1 h_a1_dots h_t_least h_a1_cuts h_a1_skips h_a1_settings h_a1_weights f_t_costs v_a1_wide v_a1_high v_a1_frames f_a1_dots f_t_least) (wX3_work cA h_t h_t_costs h_a1 h_a1_dots h_t_least h_a1_cuts h_a1_skips h_a1_settings h_a1_weights r.1 v_a1_wide v_a1_high v_a1_frames f_a1_dots r.2) sz := by
  refine Met.ofW (cc := cX3_work) (maxL := 7) (ret := none) (by decide) rfl ?_
  intro p e s m args below meth c s₁ B hml hv
  obtain ⟨rfl, hsz, hP, hK, hD0, hZ⟩ := hv
  subst hsz
  have hlocks := B.notSynchronized
  have hl := lv_entry ([.ref h_t, .ref h_a1, .int (iZ x2), .int (iZ x3)]) (n := 7) (Nat.le_of_ble_eq_true rfl)
  rw [lg_entry_eq]
  generalize (lg_sl ([.ref h_t, .ref h_a1, .int (iZ x2), .int (iZ x3)]) ++ List.replicate (7 - (lg_sl ([.ref h_t, .ref h_a1, .int (iZ x2), .int (iZ x3)])).length) Slot.unset).toArray = ls at hl ⊢
  exact wX3_work_E p l e s m _ below meth c _ G D cA _ h_t h_t_costs h_a1 h_a1_dots h_t_least h_a1_cuts h_a1_skips h_a1_settings h_a1_weights v_a1_wide v_a1_high v_a1_frames f_a1_dots x2 x3 N ⟨B.exec, B.bytes, hml, findClass_of_methodNamed B.named, atoms_spec (ws := vX3_work) B.pre⟩ hK (fun q h => Or.inr h) hZ r (fun pc H locs ls hd hP hD hS => W.vret B.exec B.bytes B.returns (fun t ht hW => ⟨⟨(), rfl, trivial, by rw [ht]; exact hP, va_K.moved hW.alike hK, hD⟩, hS.F ht⟩) hS.2.2 hd) f_t_costs f_t_least hF s.heap [] hP (hD0.self (sz := s.heap.size)) va_S.rf ls hl

/-! ===== FlickerDesk$Fit.comesTo(I)I ===== -/
abbrev rmX3_comesTo : Room := { frames := 1, cells := 0, slots := 0, locals := 22 }
abbrev wX3_comesTo (cA : Nat → ClassId) (h_t h_t_costs h_t_least : Nat) (f_t_costs : Nat → Int) (f_t_least : Nat → Int) : va_W := [(h_t, .inr (3, [.ref h_t_costs, .ref h_t_least])), (h_t_costs, zA (cA 0) 256 f_t_costs), (h_t_least, zA (cA 0) 272 f_t_least)]
def fX3_comesTo_b9 (N : Nat) (f_t_costs : Nat → Int) (f_t_least : Nat → Int) (x1 : Int) (rec : Int → Int → Option (Int)) (k : Int → Int → Option (Int)) (i2 : Int) (i3 : Int) : Option (Int) := (if iZ i2 < iZ 15 then ((fX3_costBy N f_t_costs f_t_least i3 i2).bind fun r3 => (gd ((0 : Int) ≤ (i3 * 16) + i2 ∧ (i3 * 16) + i2 < 272) (if iZ (f_t_least ((i3 * 16) + i2).toNat) < iZ r3 then (rec (i2 + 1) i3) else (k i2 i3)))) else (k i2 i3))
def fX3_comesTo_L9 (N : Nat) (f_t_costs : Nat → Int) (f_t_least : Nat → Int) (x1 : Int) (k : Int → Int → Option (Int)) : Nat → Int → Int → Option (Int)
  | 0 => fun _ _ => none
  | n + 1 => fX3_comesTo_b9 N f_t_costs f_t_least x1 (fX3_comesTo_L9 N f_t_costs f_t_least x1 k n) k
def fX3_comesTo_j41 (N : Nat) (f_t_costs : Nat → Int) (f_t_least : Nat → Int) (x1 : Int) (rec : Int → Int → Option (Int)) (k : Int → Option (Int)) (i2 : Int) (i3 : Int) : Option (Int) := (rec i2 (i3 + 1))
def fX3_comesTo_b4 (N : Nat) (f_t_costs : Nat → Int) (f_t_least : Nat → Int) (x1 : Int) (rec : Int → Int → Option (Int)) (k : Int → Option (Int)) (i2 : Int) (i3 : Int) : Option (Int) := (if iZ x1 < iZ i3 then (k i2) else (fX3_comesTo_L9 N f_t_costs f_t_least x1 (fX3_comesTo_j41 N f_t_costs f_t_least x1 rec k) N i2 i3))
def fX3_comesTo_L4 (N : Nat) (f_t_costs : Nat → Int) (f_t_least : Nat → Int) (x1 : Int) (k : Int → Option (Int)) : Nat → Int → Int → Option (Int)
  | 0 => fun _ _ => none
  | n + 1 => fX3_comesTo_b4 N f_t_costs f_t_least x1 (fX3_comesTo_L4 N f_t_costs f_t_least x1 k n) k
def fX3_comesTo_j47 (N : Nat) (f_t_costs : Nat → Int) (f_t_least : Nat → Int) (x1 : Int) (i2 : Int) : Option (Int) := (some i2)
def fX3_comesTo (N : Nat) (f_t_costs : Nat → Int) (f_t_least : Nat → Int) (x1 : Int) : Option (Int) := (fX3_comesTo_L4 N f_t_costs f_t_least x1 (fX3_comesTo_j47 N f_t_costs f_t_least x1) N 0 0)
abbrev kX3_comesTo (p : Program) (l : Launch) (e : Env) (s : State) (m : MethodId) (args : Array Value) (below : List Frame) (meth : Method) (c : Code) (Q : State → Prop) (G : ZG) (D : va_G) (cA : Nat → ClassId) (A : Nat → Prop) (h_t h_t_costs h_t_least : Nat) (f_t_costs : Nat → Int) (f_t_least : Nat → Int) (x1 : Int) (N : Nat) (r : Int) : Prop := ∀ (pc : Nat) (H : Heap) (locs : List Loc) (ls : Array Slot), decode cX3_comesTo pc = .ok (.ireturn, 1) → va_P D vwCl (wX3_comesTo cA h_t h_t_costs h_t_least f_t_costs f_t_least) H → va_D A (wX3_comesTo cA h_t h_t_costs h_t_least f_t_costs f_t_least) → va_S A s.heap H locs → W p l e rmX3_comesTo s m args below meth c H locs 0 0 Q (F0 m pc ls [.int (iZ r)])
abbrev sX3_comesTo_41 (p : Program) (l : Launch) (e : Env) (s : State) (m : MethodId) (args : Array Value) (below : List Frame) (meth : Method) (c : Code) (Q : State → Prop) (G : ZG) (D : va_G) (cA : Nat → ClassId) (A : Nat → Prop) (h_t h_t_costs h_t_least : Nat) (f_t_costs : Nat → Int) (f_t_least : Nat → Int) (x1 : Int) (N : Nat) (i2 : Int) (i3 : Int) : Prop := ∀ (H : Heap) (locs : List Loc), va_P D vwCl (wX3_comesTo cA h_t h_t_costs h_t_least f_t_costs f_t_least) H → va_D A (wX3_comesTo cA h_t h_t_costs h_t_least f_t_costs f_t_least) → va_S A s.heap H locs → ∀ ls : Array Slot, lv_has ls 4 [(0, .ref h_t), (1, .int (iZ x1)), (2, .int (iZ i2)), (3, .int (iZ i3))] → W p l e rmX3_comesTo s m args below meth c H locs 0 0 Q (F0 m 41 ls [])
abbrev sX3_comesTo_9 (p : Program) (l : Launch) (e : Env) (s : State) (m : MethodId) (args : Array Value) (below : List Frame) (meth : Method) (c : Code) (Q : State → Prop) (G : ZG) (D : va_G) (cA : Nat → ClassId) (A : Nat → Prop) (h_t h_t_costs h_t_least : Nat) (f_t_costs : Nat → Int) (f_t_least : Nat → Int) (x1 : Int) (N : Nat) (i2 : Int) (i3 : Int) : Prop := ∀ (H : Heap) (locs : List Loc), va_P D vwCl (wX3_comesTo cA h_t h_t_costs h_t_least f_t_costs f_t_least) H → va_D A (wX3_comesTo cA h_t h_t_costs h_t_least f_t_costs f_t_least) → va_S A s.heap H locs → ∀ ls : Array Slot, lv_has ls 4 [(0, .ref h_t), (1, .int (iZ x1)), (2, .int (iZ i2)), (3, .int (iZ i3))] → W p l e rmX3_comesTo s m args below meth c H locs 0 0 Q (F0 m 9 ls [])
abbrev sX3_comesTo_47 (p : Program) (l : Launch) (e : Env) (s : State) (m : MethodId) (args : Array Value) (below : List Frame) (meth : Method) (c : Code) (Q : State → Prop) (G : ZG) (D : va_G) (cA : Nat → ClassId) (A : Nat → Prop) (h_t h_t_costs h_t_least : Nat) (f_t_costs : Nat → Int) (f_t_least : Nat → Int) (x1 : Int) (N : Nat) (i2 : Int) : Prop := ∀ (H : Heap) (locs : List Loc), va_P D vwCl (wX3_comesTo cA h_t h_t_costs h_t_least f_t_costs f_t_least) H → va_D A (wX3_comesTo cA h_t h_t_costs h_t_least f_t_costs f_t_least) → va_S A s.heap H locs → ∀ ls : Array Slot, lv_has ls 4 [(2, .int (iZ i2))] → W p l e rmX3_comesTo s m args below meth c H locs 0 0 Q (F0 m 47 ls [])
abbrev sX3_comesTo_4 (p : Program) (l : Launch) (e : Env) (s : State) (m : MethodId) (args : Array Value) (below : List Frame) (meth : Method) (c : Code) (Q : State → Prop) (G : ZG) (D : va_G) (cA : Nat → ClassId) (A : Nat → Prop) (h_t h_t_costs h_t_least : Nat) (f_t_costs : Nat → Int) (f_t_least : Nat → Int) (x1 : Int) (N : Nat) (i2 : Int) (i3 : Int) : Prop := ∀ (H : Heap) (locs : List Loc), va_P D vwCl (wX3_comesTo cA h_t h_t_costs h_t_least f_t_costs f_t_least) H → va_D A (wX3_comesTo cA h_t h_t_costs h_t_least f_t_costs f_t_least) → va_S A s.heap H locs → ∀ ls : Array Slot, lv_has ls 4 [(0, .ref h_t), (1, .int (iZ x1)), (2, .int (iZ i2)), (3, .int (iZ i3))] → W p l e rmX3_comesTo s m args below meth c H locs 0 0 Q (F0 m 4 ls [])
set_option maxHeartbeats 4000000 in
set_option maxRecDepth 100000 in
theorem wX3_comesTo_b9 (p : Program) (l : Launch) (e : Env) (s : State) (m : MethodId) (args : Array Value) (below : List Frame) (meth : Method) (c : Code) (Q : State → Prop) (G : ZG) (D : va_G) (cA : Nat → ClassId) (A : Nat → Prop) (h_t h_t_costs h_t_least : Nat) (f_t_costs : Nat → Int) (f_t_least : Nat → Int) (x1 : Int) (N : Nat) (C : CallFix p m c cX3_comesTo 4 s args vX3_comesTo RX3) (hK : va_K D vwCl (zT cA) s) (hA : ∀ q, s.heap.size ≤ q → A q) (hZ : zSt G A s s.heap) (r : Int) (kr : kX3_comesTo p l e s m args below meth c Q G D cA A h_t h_t_costs h_t_least f_t_costs f_t_least x1 N r) (rec : Int → Int → Option (Int)) (k : Int → Int → Option (Int)) (hrec : ∀ (i2 : Int) (i3 : Int), rec i2 i3 = some r → sX3_comesTo_9 p l e s m args below meth c Q G D cA A h_t h_t_costs h_t_least f_t_costs f_t_least x1 N i2 i3) (hk : ∀ (i2 : Int) (i3 : Int), k i2 i3 = some r → sX3_comesTo_41 p l e s m args below meth c Q G D cA A h_t h_t_costs h_t_least f_t_costs f_t_least x1 N i2 i3) (i2 : Int) (i3 : Int) (h : fX3_comesTo_b9 N f_t_costs f_t_least x1 rec k i2 i3 = some r) : sX3_comesTo_9 p l e s m args below meth c Q G D cA A h_t h_t_costs h_t_least f_t_costs f_t_least x1 N i2 i3 := by
  obtain ⟨hx, hb, hml, hown, hts⟩ := id C
  have hq : ∀ w ∈ wAll, w.before args s = true := fun w h => hts w (List.mem_cons_of_mem _ h)
  intro H locs hP hD hS ls hl
  unfold fX3_comesTo_b9 at h
  refine lv_iload_n hx hb dX3_comesTo_9 rfl (lv_at hl 2 rfl) ?_
  refine z_bipush hx hb dX3_comesTo_10 (by decide) ?_
  refine z_icmp_ge (tgt := 41) hx hb dX3_comesTo_12 (by decide) (fun c2 => ?_) (fun c2 => ?_)
  · rw [if_neg c2] at h
    exact hk i2 i3 h H locs hP hD hS ls (lv_sub hl [0, 1, 2, 3] rfl)
  · rw [if_pos c2] at h
    refine lv_aload_n hx hb dX3_comesTo_15 rfl (lv_at hl 0 rfl) ?_
    refine lv_iload_n hx hb dX3_comesTo_16 rfl (lv_at hl 3 rfl) ?_
    refine lv_iload_n hx hb dX3_comesTo_17 rfl (lv_at hl 2 rfl) ?_
    obtain ⟨r3, e3, h⟩ := bd_some h
    refine z_callVi (G := G) (D := D) (cA := cA) (wc := (wX3_costBy cA h_t h_t_costs h_t_least f_t_costs f_t_least)) (wr := []) (w1 := (wX3_costBy cA h_t h_t_costs h_t_least f_t_costs f_t_least)) (ws' := (wX3_comesTo cA h_t h_t_costs h_t_least f_t_costs f_t_least)) (r := r3) (As := [.int (iZ i3), .int (iZ i2)]) C hK hA hZ hP hD hS [0, 1, 2] [] [0, 1, 2] rfl rfl rfl (by decide) (cX3_costBy_m l G D cA h_t h_t_costs h_t_least f_t_costs f_t_least i3 i2 H.size N e3) (cwV 2 hts (gAllV q275 q276 q277 q274 q268) rfl rfl rfl (by decide +kernel) ⟨Nat.le_of_ble_eq_true rfl, Nat.le_of_ble_eq_true rfl⟩) 0 3 rfl rfl rfl rfl hl.1 rfl (Nat.le_of_ble_eq_true rfl) ⟨Nat.zero_le _, Nat.zero_le _⟩ dX3_comesTo_18 (fun H locs hP hD hS => ?_)
    refine lv_aload_n hx hb dX3_comesTo_21 rfl (lv_at hl 0 rfl) ?_
    refine va_get (D := D) (ci := 3) (v := .ref h_t_least) (C := RX3) (T := TX3) (N := 2) hx hb hq in_wsX30 hown hK hP 0 rfl rfl 1 (by decide) (hq _ q262) (fun _ h9 => h9) rfl dX3_comesTo_22 ?_
    refine lv_iload_n hx hb dX3_comesTo_25 rfl (lv_at hl 3 rfl) ?_
    refine z_bipush hx hb dX3_comesTo_26 (by decide) ?_
    refine z_imul hx hb dX3_comesTo_28 ?_
    refine lv_iload_n hx hb dX3_comesTo_29 rfl (lv_at hl 2 rfl) ?_
    refine z_iadd hx hb dX3_comesTo_30 ?_
    obtain ⟨g4, h⟩ := gd_some h
    refine z_iald hx hb hK hP 2 0 rfl rfl (Nat.le_of_ble_eq_true rfl) g4 dX3_comesTo_31 ?_
    refine z_icmp_le (tgt := 41) hx hb dX3_comesTo_32 (by decide) (fun c5 => ?_) (fun c5 => ?_)
    · rw [if_neg c5] at h
      exact hk i2 i3 h H locs hP hD hS ls (lv_sub hl [0, 1, 2, 3] rfl)
    · rw [if_pos c5] at h
      refine z_iinc (lv' := [(2, .int (iZ (i2 + 1))), (0, .ref h_t), (1, .int (iZ x1)), (3, .int (iZ i3))]) hx hb dX3_comesTo_35 hl (k := 2) rfl (by decide) rfl (fun ls hl => ?_)
      refine lv_goto (tgt := 9) hx hb dX3_comesTo_38 (by decide) ?_
      exact hrec (i2 + 1) i3 h H locs hP hD hS ls (lv_sub hl [1, 2, 0, 3] rfl)
theorem wX3_comesTo_L9 (p : Program) (l : Launch) (e : Env) (s : State) (m : MethodId) (args : Array Value) (below : List Frame) (meth : Method) (c : Code) (Q : State → Prop) (G : ZG) (D : va_G) (cA : Nat → ClassId) (A : Nat → Prop) (h_t h_t_costs h_t_least : Nat) (f_t_costs : Nat → Int) (f_t_least : Nat → Int) (x1 : Int) (N : Nat) (C : CallFix p m c cX3_comesTo 4 s args vX3_comesTo RX3) (hK : va_K D vwCl (zT cA) s) (hA : ∀ q, s.heap.size ≤ q → A q) (hZ : zSt G A s s.heap) (r : Int) (kr : kX3_comesTo p l e s m args below meth c Q G D cA A h_t h_t_costs h_t_least f_t_costs f_t_least x1 N r) (k : Int → Int → Option (Int)) (hk : ∀ (i2 : Int) (i3 : Int), k i2 i3 = some r → sX3_comesTo_41 p l e s m args below meth c Q G D cA A h_t h_t_costs h_t_least f_t_costs f_t_least x1 N i2 i3) : ∀ (n : Nat) (i2 : Int) (i3 : Int), fX3_comesTo_L9 N f_t_costs f_t_least x1 k n i2 i3 = some r → sX3_comesTo_9 p l e s m args below meth c Q G D cA A h_t h_t_costs h_t_least f_t_costs f_t_least x1 N i2 i3 := by
  intro n
  induction n with
  | zero =>
    intro i2 i3 h
    have h : none = some r := h
    cases h
  | succ n ih =>
    intro i2 i3 h
    exact wX3_comesTo_b9 p l e s m args below meth c Q G D cA A h_t h_t_costs h_t_least f_t_costs f_t_least x1 N C hK hA hZ r kr (fX3_comesTo_L9 N f_t_costs f_t_least x1 k n) k ih hk i2 i3 h
set_option maxHeartbeats 4000000 in
set_option maxRecDepth 100000 in
theorem wX3_comesTo_j41 (p : Program) (l : Launch) (e : Env) (s : State) (m : MethodId) (args : Array Value) (below : List Frame) (meth : Method) (c : Code) (Q : State → Prop) (G : ZG) (D : va_G) (cA : Nat → ClassId) (A : Nat → Prop) (h_t h_t_costs h_t_least : Nat) (f_t_costs : Nat → Int) (f_t_least : Nat → Int) (x1 : Int) (N : Nat) (C : CallFix p m c cX3_comesTo 4 s args vX3_comesTo RX3) (hK : va_K D vwCl (zT cA) s) (hA : ∀ q, s.heap.size ≤ q → A q) (hZ : zSt G A s s.heap) (r : Int) (kr : kX3_comesTo p l e s m args below meth c Q G D cA A h_t h_t_costs h_t_least f_t_costs f_t_least x1 N r) (rec : Int → Int → Option (Int)) (k : Int → Option (Int)) (hrec : ∀ (i2 : Int) (i3 : Int), rec i2 i3 = some r → sX3_comesTo_4 p l e s m args below meth c Q G D cA A h_t h_t_costs h_t_least f_t_costs f_t_least x1 N i2 i3) (hk : ∀ (i2 : Int), k i2 = some r → sX3_comesTo_47 p l e s m args below meth c Q G D cA A h_t h_t_costs h_t_least f_t_costs f_t_least x1 N i2) (i2 : Int) (i3 : Int) (h : fX3_comesTo_j41 N f_t_costs f_t_least x1 rec k i2 i3 = some r) : sX3_comesTo_41 p l e s m args below meth c Q G D cA A h_t h_t_costs h_t_least f_t_costs f_t_least x1 N i2 i3 := by
  obtain ⟨hx, hb, hml, hown, hts⟩ := id C
  have hq : ∀ w ∈ wAll, w.before args s = true := fun w h => hts w (List.mem_cons_of_mem _ h)
  intro H locs hP hD hS ls hl
  unfold fX3_comesTo_j41 at h
  refine z_iinc (lv' := [(3, .int (iZ (i3 + 1))), (0, .ref h_t), (1, .int (iZ x1)), (2, .int (iZ i2))]) hx hb dX3_comesTo_41 hl (k := 3) rfl (by decide) rfl (fun ls hl => ?_)
  refine lv_goto (tgt := 4) hx hb dX3_comesTo_44 (by decide) ?_
  exact hrec i2 (i3 + 1) h H locs hP hD hS ls (lv_sub hl [1, 2, 3, 0] rfl)
set_option maxHeartbeats 4000000 in
set_option maxRecDepth 100000 in
theorem wX3_comesTo_b4 (p : Program) (l : Launch) (e : Env) (s : State) (m : MethodId) (args : Array Value) (below : List Frame) (meth : Method) (c : Code) (Q : State → Prop) (G : ZG) (D : va_G) (cA : Nat → ClassId) (A : Nat → Prop) (h_t h_t_costs h_t_least : Nat) (f_t_costs : Nat → Int) (f_t_least : Nat → Int) (x1 : Int) (N : Nat) (C : CallFix p m c cX3_comesTo 4 s args vX3_comesTo RX3) (hK : va_K D vwCl (zT cA) s) (hA : ∀ q, s.heap.size ≤ q → A q) (hZ : zSt G A s s.heap) (r : Int) (kr : kX3_comesTo p l e s m args below meth c Q G D cA A h_t h_t_costs h_t_least f_t_costs f_t_least x1 N r) (rec : Int → Int → Option (Int)) (k : Int → Option (Int)) (hrec : ∀ (i2 : Int) (i3 : Int), rec i2 i3 = some r → sX3_comesTo_4 p l e s m args below meth c Q G D cA A h_t h_t_costs h_t_least f_t_costs f_t_least x1 N i2 i3) (hk : ∀ (i2 : Int), k i2 = some r → sX3_comesTo_47 p l e s m args below meth c Q G D cA A h_t h_t_costs h_t_least f_t_costs f_t_least x1 N i2) (i2 : Int) (i3 : Int) (h : fX3_comesTo_b4 N f_t_costs f_t_least x1 rec k i2 i3 = some r) : sX3_comesTo_4 p l e s m args below meth c Q G D cA A h_t h_t_costs h_t_least f_t_costs f_t_least x1 N i2 i3 := by
  obtain ⟨hx, hb, hml, hown, hts⟩ := id C
  have hq : ∀ w ∈ wAll, w.before args s = true := fun w h => hts w (List.mem_cons_of_mem _ h)
  intro H locs hP hD hS ls hl
  unfold fX3_comesTo_b4 at h
  refine lv_iload_n hx hb dX3_comesTo_4 rfl (lv_at hl 3 rfl) ?_
  refine lv_iload_n hx hb dX3_comesTo_5 rfl (lv_at hl 1 rfl) ?_
  refine z_icmp_gt (tgt := 47) hx hb dX3_comesTo_6 (by decide) (fun c1 => ?_) (fun c1 => ?_)
  · rw [if_pos c1] at h
    exact hk i2 h H locs hP hD hS ls (lv_sub hl [2] rfl)
  · rw [if_neg c1] at h
    exact wX3_comesTo_L9 p l e s m args below meth c Q G D cA A h_t h_t_costs h_t_least f_t_costs f_t_least x1 N C hK hA hZ r kr (fX3_comesTo_j41 N f_t_costs f_t_least x1 rec k) (fun y0 y1 h9 => wX3_comesTo_j41 p l e s m args below meth c Q G D cA A h_t h_t_costs h_t_least f_t_costs f_t_least x1 N C hK hA hZ r kr rec k hrec hk y0 y1 h9) N i2 i3 h H locs hP hD hS ls (lv_sub hl [0, 1, 2, 3] rfl)
theorem wX3_comesTo_L4 (p : Program) (l : Launch) (e : Env) (s : State) (m : MethodId) (args : Array Value) (below : List Frame) (meth : Method) (c : Code) (Q : State → Prop) (G : ZG) (D : va_G) (cA : Nat → ClassId) (A : Nat → Prop) (h_t h_t_costs h_t_least : Nat) (f_t_costs : Nat → Int) (f_t_least : Nat → Int) (x1 : Int) (N : Nat) (C : CallFix p m c cX3_comesTo 4 s args vX3_comesTo RX3) (hK : va_K D vwCl (zT cA) s) (hA : ∀ q, s.heap.size ≤ q → A q) (hZ : zSt G A s s.heap) (r : Int) (kr : kX3_comesTo p l e s m args below meth c Q G D cA A h_t h_t_costs h_t_least f_t_costs f_t_least x1 N r) (k : Int → Option (Int)) (hk : ∀ (i2 : Int), k i2 = some r → sX3_comesTo_47 p l e s m args below meth c Q G D cA A h_t h_t_costs h_t_least f_t_costs f_t_least x1 N i2) : ∀ (n : Nat) (i2 : Int) (i3 : Int), fX3_comesTo_L4 N f_t_costs f_t_least x1 k n i2 i3 = some r → sX3_comesTo_4 p l e s m args below meth c Q G D cA A h_t h_t_costs h_t_least f_t_costs f_t_least x1 N i2 i3 := by
  intro n
  induction n with
  | zero =>
    intro i2 i3 h
    have h : none = some r := h
    cases h
  | succ n ih =>
    intro i2 i3 h
    exact wX3_comesTo_b4 p l e s m args below meth c Q G D cA A h_t h_t_costs h_t_least f_t_costs f_t_least x1 N C hK hA hZ r kr (fX3_comesTo_L4 N f_t_costs f_t_least x1 k n) k ih hk i2 i3 h
set_option maxHeartbeats 4000000 in
set_option maxRecDepth 100000 in
theorem wX3_comesTo_j47 (p : Program) (l : Launch) (e : Env) (s : State) (m : MethodId) (args : Array Value) (below : List Frame) (meth : Method) (c : Code) (Q : State → Prop) (G : ZG) (D : va_G) (cA : Nat → ClassId) (A : Nat → Prop) (h_t h_t_costs h_t_least : Nat) (f_t_costs : Nat → Int) (f_t_least : Nat → Int) (x1 : Int) (N : Nat) (C : CallFix p m c cX3_comesTo 4 s args vX3_comesTo RX3) (hK : va_K D vwCl (zT cA) s) (hA : ∀ q, s.heap.size ≤ q → A q) (hZ : zSt G A s s.heap) (r : Int) (kr : kX3_comesTo p l e s m args below meth c Q G D cA A h_t h_t_costs h_t_least f_t_costs f_t_least x1 N r) (i2 : Int) (h : fX3_comesTo_j47 N f_t_costs f_t_least x1 i2 = some r) : sX3_comesTo_47 p l e s m args below meth c Q G D cA A h_t h_t_costs h_t_least f_t_costs f_t_least x1 N i2 := by
  obtain ⟨hx, hb, hml, hown, hts⟩ := id C
  have hq : ∀ w ∈ wAll, w.before args s = true := fun w h => hts w (List.mem_cons_of_mem _ h)
  intro H locs hP hD hS ls hl
  unfold fX3_comesTo_j47 at h
  refine lv_iload_n hx hb dX3_comesTo_47 rfl (lv_at hl 0 rfl) ?_
  cases h
  exact kr _ _ _ _ dX3_comesTo_48 hP hD hS
set_option maxHeartbeats 4000000 in
set_option maxRecDepth 100000 in
theorem wX3_comesTo_E (p : Program) (l : Launch) (e : Env) (s : State) (m : MethodId) (args : Array Value) (below : List Frame) (meth : Method) (c : Code) (Q : State → Prop) (G : ZG) (D : va_G) (cA : Nat → ClassId) (A : Nat → Prop) (h_t h_t_costs h_t_least : Nat) (f_t_costs : Nat → Int) (f_t_least : Nat → Int) (x1 : Int) (N : Nat) (C : CallFix p m c cX3_comesTo 4 s args vX3_comesTo RX3) (hK : va_K D vwCl (zT cA) s) (hA : ∀ q, s.heap.size ≤ q → A q) (hZ : zSt G A s s.heap) (r : Int) (kr : kX3_comesTo p l e s m args below meth c Q G D cA A h_t h_t_costs h_t_least f_t_costs f_t_least x1 N r) (h : fX3_comesTo N f_t_costs f_t_least x1 = some r) (H : Heap) (locs : List Loc) (hP : va_P D vwCl (wX3_comesTo cA h_t h_t_costs h_t_least f_t_costs f_t_least) H) (hD : va_D A (wX3_comesTo cA h_t h_t_costs h_t_least f_t_costs f_t_least)) (hS : va_S A s.heap H locs) (ls : Array Slot) (hl : lv_has ls 4 [(0, .ref h_t), (1, .int (iZ x1))]) : W p l e rmX3_comesTo s m args below meth c H locs 0 0 Q (F0 m 0 ls []) := by
  obtain ⟨hx, hb, hml, hown, hts⟩ := id C
  have hq : ∀ w ∈ wAll, w.before args s = true := fun w h => hts w (List.mem_cons_of_mem _ h)
  unfold fX3_comesTo at h
  refine z_iconst hx hb dX3_comesTo_0 ?_
  refine lv_istore_n (lv' := [(2, .int (iZ 0)), (0, .ref h_t), (1, .int (iZ x1))]) hx hb dX3_comesTo_1 rfl hl (by decide) rfl (fun ls hl => ?_)
  refine z_iconst hx hb dX3_comesTo_2 ?_
  refine lv_istore_n (lv' := [(3, .int (iZ 0)), (2, .int (iZ 0)), (0, .ref h_t), (1, .int (iZ x1))]) hx hb dX3_comesTo_3 rfl hl (by decide) rfl (fun ls hl => ?_)
  exact wX3_comesTo_L4 p l e s m args below meth c Q G D cA A h_t h_t_costs h_t_least f_t_costs f_t_least x1 N C hK hA hZ r kr (fX3_comesTo_j47 N f_t_costs f_t_least x1) (fun y0 h9 => wX3_comesTo_j47 p l e s m args below meth c Q G D cA A h_t h_t_costs h_t_least f_t_costs f_t_least x1 N C hK hA hZ r kr y0 h9) N 0 0 h H locs hP hD hS ls (lv_sub hl [2, 3, 1, 0] rfl)
set_option maxHeartbeats 4000000 in
set_option maxRecDepth 100000 in
theorem cX3_comesTo_m (l : Launch) (G : ZG) (D : va_G) (cA : Nat → ClassId) (h_t h_t_costs h_t_least : Nat) (f_t_costs : Nat → Int) (f_t_least : Nat → Int) (x1 : Int) (sz N : Nat) {r : Int} (hF : fX3_comesTo N f_t_costs f_t_least x1 = some r) : zMi l yX3_comesTo vX3_comesTo rmX3_comesTo G D cA [.ref h_t, .int (iZ x1)] (wX3_comesTo cA h_t h_t_costs h_t_least f_t_costs f_t_least) (wX3_comesTo cA h_t h_t_costs h_t_least f_t_costs f_t_least) r sz := by
  refine Met.ofW (cc := cX3_comesTo) (maxL := 4) (ret := (some .int)) (by decide) rfl ?_
  intro p e s m args below meth c s₁ B hml hv
  obtain ⟨rfl, hsz, hP, hK, hD0, hZ⟩ := hv
  subst hsz
  have hlocks := B.notSynchronized
  have hl := lv_entry ([.ref h_t, .int (iZ x1)]) (n := 4) (Nat.le_of_ble_eq_true rfl)
  rw [lg_entry_eq]
  generalize (lg_sl ([.ref h_t, .int (iZ x1)]) ++ List.replicate (4 - (lg_sl ([.ref h_t, .int (iZ x1)])).length) Slot.unset).toArray = ls at hl ⊢
  exact wX3_comesTo_E p l e s m _ below meth c _ G D cA _ h_t h_t_costs h_t_least f_t_costs f_t_least x1 N ⟨B.exec, B.bytes, hml, findClass_of_methodNamed B.named, atoms_spec (ws := vX3_comesTo) B.pre⟩ hK (fun q h => Or.inr h) hZ r (fun pc H locs ls hd hP hD hS => W.iret B.exec B.bytes B.returns (fun t ht hW => ⟨⟨_, (), rfl, rfl, by rw [ht]; exact hP, va_K.moved hW.alike hK, hD⟩, hS.F ht⟩) hS.2.2 hd) hF s.heap [] hP (hD0.self (sz := s.heap.size)) va_S.rf ls hl

/-! ===== FlickerDesk$Move.sameDots(LFlickerDesk$Film;III)I ===== -/
abbrev rmX4_sameDots : Room := { frames := 1, cells := 0, slots := 0, locals := 24 }
abbrev wX4_sameDots (cA : Nat → ClassId) (h_a1 h_a1_dots h_a1_cuts h_a1_skips h_a1_settings h_a1_weights : Nat) (v_a1_wide : Int) (v_a1_high : Int) (v_a1_frames : Int) (f_a1_dots : Nat → Int) : va_W := [(h_a1, .inr (2, [.ref h_a1_dots, .ref h_a1_cuts, .ref h_a1_skips, .ref h_a1_settings, .ref h_a1_weights, .int (iZ v_a1_wide), .int (iZ v_a1_high), .int (iZ v_a1_frames)])), (h_a1_dots, zA (cA 0) 1536 f_a1_dots)]
def fX4_sameDots_b37 (N : Nat) (v_a1_wide : Int) (v_a1_high : Int) (f_a1_dots : Nat → Int) (x2 : Int) (x3 : Int) (x4 : Int) (rec : Int → Int → Int → Option (Int)) (k : Int → Int → Option (Int)) (i4 : Int) (i5 : Int) (i6 : Int) : Option (Int) := (if iZ i6 < iZ (mnZ v_a1_wide (v_a1_wide - x3)) then (gd ((0 : Int) ≤ ((x2 * 64) + (i5 * v_a1_wide)) + i6 ∧ ((x2 * 64) + (i5 * v_a1_wide)) + i6 < 1536) (gd ((0 : Int) ≤ (((((x2 * 64) + (i5 * v_a1_wide)) + i6) + 64) + (x4 * v_a1_wide)) + x3 ∧ (((((x2 * 64) + (i5 * v_a1_wide)) + i6) + 64) + (x4 * v_a1_wide)) + x3 < 1536) (if iZ (f_a1_dots (((x2 * 64) + (i5 * v_a1_wide)) + i6).toNat) = iZ (f_a1_dots ((((((x2 * 64) + (i5 * v_a1_wide)) + i6) + 64) + (x4 * v_a1_wide)) + x3).toNat) then (rec (i4 + 1) i5 (i6 + 1)) else (rec (i4 + 0) i5 (i6 + 1))))) else (k i4 i5))
def fX4_sameDots_L37 (N : Nat) (v_a1_wide : Int) (v_a1_high : Int) (f_a1_dots : Nat → Int) (x2 : Int) (x3 : Int) (x4 : Int) (k : Int → Int → Option (Int)) : Nat → Int → Int → Int → Option (Int)
  | 0 => fun _ _ _ => none
  | n + 1 => fX4_sameDots_b37 N v_a1_wide v_a1_high f_a1_dots x2 x3 x4 (fX4_sameDots_L37 N v_a1_wide v_a1_high f_a1_dots x2 x3 x4 k n) k
def fX4_sameDots_j121 (N : Nat) (v_a1_wide : Int) (v_a1_high : Int) (f_a1_dots : Nat → Int) (x2 : Int) (x3 : Int) (x4 : Int) (rec : Int → Int → Option (Int)) (k : Int → Option (Int)) (i4 : Int) (i5 : Int) : Option (Int) := (rec i4 (i5 + 1))
def fX4_sameDots_b11 (N : Nat) (v_a1_wide : Int) (v_a1_high : Int) (f_a1_dots : Nat → Int) (x2 : Int) (x3 : Int) (x4 : Int) (rec : Int → Int → Option (Int)) (k : Int → Option (Int)) (i4 : Int) (i5 : Int) : Option (Int) := (if iZ i5 < iZ (mnZ v_a1_high (v_a1_high - x4)) then (fX4_sameDots_L37 N v_a1_wide v_a1_high f_a1_dots x2 x3 x4 (fX4_sameDots_j121 N v_a1_wide v_a1_high f_a1_dots x2 x3 x4 rec k) N i4 i5 (mxZ 0 (-x3))) else (k i4))
def fX4_sameDots_L11 (N : Nat) (v_a1_wide : Int) (v_a1_high : Int) (f_a1_dots : Nat → Int) (x2 : Int) (x3 : Int) (x4 : Int) (k : Int → Option (Int)) : Nat → Int → Int → Option (Int)
  | 0 => fun _ _ => none
  | n + 1 => fX4_sameDots_b11 N v_a1_wide v_a1_high f_a1_dots x2 x3 x4 (fX4_sameDots_L11 N v_a1_wide v_a1_high f_a1_dots x2 x3 x4 k n) k
def fX4_sameDots_j127 (N : Nat) (v_a1_wide : Int) (v_a1_high : Int) (f_a1_dots : Nat → Int) (x2 : Int) (x3 : Int) (x4 : Int) (i4 : Int) : Option (Int) := (some i4)
def fX4_sameDots (N : Nat) (v_a1_wide : Int) (v_a1_high : Int) (f_a1_dots : Nat → Int) (x2 : Int) (x3 : Int) (x4 : Int) : Option (Int) := (fX4_sameDots_L11 N v_a1_wide v_a1_high f_a1_dots x2 x3 x4 (fX4_sameDots_j127 N v_a1_wide v_a1_high f_a1_dots x2 x3 x4) N 0 (mxZ 0 (-x4)))
abbrev kX4_sameDots (p : Program) (l : Launch) (e : Env) (s : State) (m : MethodId) (args : Array Value) (below : List Frame) (meth : Method) (c : Code) (Q : State → Prop) (G : ZG) (D : va_G) (cA : Nat → ClassId) (A : Nat → Prop) (h_a1 h_a1_dots h_a1_cuts h_a1_skips h_a1_settings h_a1_weights : Nat) (v_a1_wide : Int) (v_a1_high : Int) (v_a1_frames : Int) (f_a1_dots : Nat → Int) (x2 : Int) (x3 : Int) (x4 : Int) (N : Nat) (r : Int) : Prop := ∀ (pc : Nat) (H : Heap) (locs : List Loc) (ls : Array Slot), decode cX4_sameDots pc = .ok (.ireturn, 1) → va_P D vwCl (wX4_sameDots cA h_a1 h_a1_dots h_a1_cuts h_a1_skips h_a1_settings h_a1_weights v_a1_wide v_a1_high v_a1_frames f_a1_dots) H → va_D A (wX4_sameDots cA h_a1 h_a1_dots h_a1_cuts h_a1_skips h_a1_settings h_a1_weights v_a1_wide v_a1_high v_a1_frames f_a1_dots) → va_S A s.heap H locs → W p l e rmX4_sameDots s m args below meth c H locs 0 0 Q (F0 m pc ls [.int (iZ r)])
abbrev sX4_sameDots_121 (p : Program) (l : Launch) (e : Env) (s : State) (m : MethodId) (args : Array Value) (below : List Frame) (meth : Method) (c : Code) (Q : State → Prop) (G : ZG) (D : va_G) (cA : Nat → ClassId) (A : Nat → Prop) (h_a1 h_a1_dots h_a1_cuts h_a1_skips h_a1_settings h_a1_weights : Nat) (v_a1_wide : Int) (v_a1_high : Int) (v_a1_frames : Int) (f_a1_dots : Nat → Int) (x2 : Int) (x3 : Int) (x4 : Int) (N : Nat) (i4 : Int) (i5 : Int) : Prop := ∀ (H : Heap) (locs : List Loc), va_P D vwCl (wX4_sameDots cA h_a1 h_a1_dots h_a1_cuts h_a1_skips h_a1_settings h_a1_weights v_a1_wide v_a1_high v_a1_frames f_a1_dots) H → va_D A (wX4_sameDots cA h_a1 h_a1_dots h_a1_cuts h_a1_skips h_a1_settings h_a1_weights v_a1_wide v_a1_high v_a1_frames f_a1_dots) → va_S A s.heap H locs → ∀ ls : Array Slot, lv_has ls 9 [(0, .ref h_a1), (1, .int (iZ x2)), (2, .int (iZ x3)), (3, .int (iZ x4)), (4, .int (iZ i4)), (5, .int (iZ i5))] → W p l e rmX4_sameDots s m args below meth c H locs 0 0 Q (F0 m 121 ls [])
abbrev sX4_sameDots_37 (p : Program) (l : Launch) (e : Env) (s : State) (m : MethodId) (args : Array Value) (below : List Frame) (meth : Method) (c : Code) (Q : State → Prop) (G : ZG) (D : va_G) (cA : Nat → ClassId) (A : Nat → Prop) (h_a1 h_a1_dots h_a1_cuts h_a1_skips h_a1_settings h_a1_weights : Nat) (v_a1_wide : Int) (v_a1_high : Int) (v_a1_frames : Int) (f_a1_dots : Nat → Int) (x2 : Int) (x3 : Int) (x4 : Int) (N : Nat) (i4 : Int) (i5 : Int) (i6 : Int) : Prop := ∀ (H : Heap) (locs : List Loc), va_P D vwCl (wX4_sameDots cA h_a1 h_a1_dots h_a1_cuts h_a1_skips h_a1_settings h_a1_weights v_a1_wide v_a1_high v_a1_frames f_a1_dots) H → va_D A (wX4_sameDots cA h_a1 h_a1_dots h_a1_cuts h_a1_skips h_a1_settings h_a1_weights v_a1_wide v_a1_high v_a1_frames f_a1_dots) → va_S A s.heap H locs → ∀ ls : Array Slot, lv_has ls 9 [(0, .ref h_a1), (1, .int (iZ x2)), (2, .int (iZ x3)), (3, .int (iZ x4)), (4, .int (iZ i4)), (5, .int (iZ i5)), (6, .int (iZ i6))] → W p l e rmX4_sameDots s m args below meth c H locs 0 0 Q (F0 m 37 ls [])
abbrev sX4_sameDots_127 (p : Program) (l : Launch) (e : Env) (s : State) (m : MethodId) (args : Array Value) (below : List Frame) (meth : Method) (c : Code) (Q : State → Prop) (G : ZG) (D : va_G) (cA : Nat → ClassId) (A : Nat → Prop) (h_a1 h_a1_dots h_a1_cuts h_a1_skips h_a1_settings h_a1_weights : Nat) (v_a1_wide : Int) (v_a1_high : Int) (v_a1_frames : Int) (f_a1_dots : Nat → Int) (x2 : Int) (x3 : Int) (x4 : Int) (N : Nat) (i4 : Int) : Prop := ∀ (H : Heap) (locs : List Loc), va_P D vwCl (wX4_sameDots cA h_a1 h_a1_dots h_a1_cuts h_a1_skips h_a1_settings h_a1_weights v_a1_wide v_a1_high v_a1_frames f_a1_dots) H → va_D A (wX4_sameDots cA h_a1 h_a1_dots h_a1_cuts h_a1_skips h_a1_settings h_a1_weights v_a1_wide v_a1_high v_a1_frames f_a1_dots) → va_S A s.heap H locs → ∀ ls : Array Slot, lv_has ls 9 [(4, .int (iZ i4))] → W p l e rmX4_sameDots s m args below meth c H locs 0 0 Q (F0 m 127 ls [])
abbrev sX4_sameDots_11 (p : Program) (l : Launch) (e : Env) (s : State) (m : MethodId) (args : Array Value) (below : List Frame) (meth : Method) (c : Code) (Q : State → Prop) (G : ZG) (D : va_G) (cA : Nat → ClassId) (A : Nat → Prop) (h_a1 h_a1_dots h_a1_cuts h_a1_skips h_a1_settings h_a1_weights : Nat) (v_a1_wide : Int) (v_a1_high : Int) (v_a1_frames : Int) (f_a1_dots : Nat → Int) (x2 : Int) (x3 : Int) (x4 : Int) (N : Nat) (i4 : Int) (i5 : Int) : Prop := ∀ (H : Heap) (locs : List Loc), va_P D vwCl (wX4_sameDots cA h_a1 h_a1_dots h_a1_cuts h_a1_skips h_a1_settings h_a1_weights v_a1_wide v_a1_high v_a1_frames f_a1_dots) H → va_D A (wX4_sameDots cA h_a1 h_a1_dots h_a1_cuts h_a1_skips h_a1_settings h_a1_weights v_a1_wide v_a1_high v_a1_frames f_a1_dots) → va_S A s.heap H locs → ∀ ls : Array Slot, lv_has ls 9 [(0, .ref h_a1), (1, .int (iZ x2)), (2, .int (iZ x3)), (3, .int (iZ x4)), (4, .int (iZ i4)), (5, .int (iZ i5))] → W p l e rmX4_sameDots s m args below meth c H locs 0 0 Q (F0 m 11 ls [])
set_option maxHeartbeats 4000000 in
set_option maxRecDepth 100000 in
theorem wX4_sameDots_b37 (p : Program) (l : Launch) (e : Env) (s : State) (m : MethodId) (args : Array Value) (below : List Frame) (meth : Method) (c : Code) (Q : State → Prop) (G : ZG) (D : va_G) (cA : Nat → ClassId) (A : Nat → Prop) (h_a1 h_a1_dots h_a1_cuts h_a1_skips h_a1_settings h_a1_weights : Nat) (v_a1_wide : Int) (v_a1_high : Int) (v_a1_frames : Int) (f_a1_dots : Nat → Int) (x2 : Int) (x3 : Int) (x4 : Int) (N : Nat) (C : CallFix p m c cX4_sameDots 9 s args vX4_sameDots RX4) (hK : va_K D vwCl (zT cA) s) (hA : ∀ q, s.heap.size ≤ q → A q) (hZ : zSt G A s s.heap) (r : Int) (kr : kX4_sameDots p l e s m args below meth c Q G D cA A h_a1 h_a1_dots h_a1_cuts h_a1_skips h_a1_settings h_a1_weights v_a1_wide v_a1_high v_a1_frames f_a1_dots x2 x3 x4 N r) (rec : Int → Int → Int → Option (Int)) (k : Int → Int → Option (Int)) (hrec : ∀ (i4 : Int) (i5 : Int) (i6 : Int), rec i4 i5 i6 = some r → sX4_sameDots_37 p l e s m args below meth c Q G D cA A h_a1 h_a1_dots h_a1_cuts h_a1_skips h_a1_settings h_a1_weights v_a1_wide v_a1_high v_a1_frames f_a1_dots x2 x3 x4 N i4 i5 i6) (hk : ∀ (i4 : Int) (i5 : Int), k i4 i5 = some r → sX4_sameDots_121 p l e s m args below meth c Q G D cA A h_a1 h_a1_dots h_a1_cuts h_a1_skips h_a1_settings h_a1_weights v_a1_wide v_a1_high v_a1_frames f_a1_dots x2 x3 x4 N i4 i5) (i4 : Int) (i5 : Int) (i6 : Int) (h : fX4_sameDots_b37 N v_a1_wide v_a1_high f_a1_dots x2 x3 x4 rec k i4 i5 i6 = some r) : sX4_sameDots_37 p l e s m args below meth c Q G D cA A h_a1 h_a1_dots h_a1_cuts h_a1_skips h_a1_settings h_a1_weights v_a1_wide v_a1_high v_a1_frames f_a1_dots x2 x3 x4 N i4 i5 i6 := by
  obtain ⟨hx, hb, hml, hown, hts⟩ := id C
  have hq : ∀ w ∈ wAll, w.before args s = true := fun w h => hts w (List.mem_cons_of_mem _ h)
  intro H locs hP hD hS ls hl
  unfold fX4_sameDots_b37 at h
  refine lv_iload hx hb dX4_sameDots_37 (lv_at hl 6 rfl) ?_
  refine lv_aload_n hx hb dX4_sameDots_39 rfl (lv_at hl 0 rfl) ?_
  refine va_get (D := D) (ci := 2) (v := .int (iZ v_a1_wide)) (C := RX2) (T := TX2) (N := 8) hx hb hq in_wsX20 hown hK hP 0 rfl rfl 5 (by decide) (hq _ q286) (fun _ h9 => h9) rfl dX4_sameDots_40 ?_
  refine lv_aload_n hx hb dX4_sameDots_43 rfl (lv_at hl 0 rfl) ?_
  refine va_get (D := D) (ci := 2) (v := .int (iZ v_a1_wide)) (C := RX2) (T := TX2) (N := 8) hx hb hq in_wsX20 hown hK hP 0 rfl rfl 5 (by decide) (hq _ q286) (fun _ h9 => h9) rfl dX4_sameDots_44 ?_
  refine lv_iload_n hx hb dX4_sameDots_47 rfl (lv_at hl 2 rfl) ?_
  refine z_isub hx hb dX4_sameDots_48 ?_
  refine z_mmin hx hb (by rw [hml]; exact hl.1.symm) hown (hq _ q285) (hq _ q141) (hq _ q133) (hq _ q142) (Nat.le_of_ble_eq_true rfl) (Nat.le_of_ble_eq_true rfl) (Nat.zero_le _) (Nat.zero_le _) dX4_sameDots_49 ?_
  refine z_icmp_ge (tgt := 121) hx hb dX4_sameDots_52 (by decide) (fun c2 => ?_) (fun c2 => ?_)
  · rw [if_neg c2] at h
    exact hk i4 i5 h H locs hP hD hS ls (lv_sub hl [0, 1, 2, 3, 4, 5] rfl)
  · rw [if_pos c2] at h
    refine lv_iload_n hx hb dX4_sameDots_55 rfl (lv_at hl 1 rfl) ?_
    refine z_bipush hx hb dX4_sameDots_56 (by decide) ?_
    refine z_imul hx hb dX4_sameDots_58 ?_
    refine lv_iload hx hb dX4_sameDots_59 (lv_at hl 5 rfl) ?_
    refine lv_aload_n hx hb dX4_sameDots_61 rfl (lv_at hl 0 rfl) ?_
    refine va_get (D := D) (ci := 2) (v := .int (iZ v_a1_wide)) (C := RX2) (T := TX2) (N := 8) hx hb hq in_wsX20 hown hK hP 0 rfl rfl 5 (by decide) (hq _ q286) (fun _ h9 => h9) rfl dX4_sameDots_62 ?_
    refine z_imul hx hb dX4_sameDots_65 ?_
    refine z_iadd hx hb dX4_sameDots_66 ?_
    refine lv_iload hx hb dX4_sameDots_67 (lv_at hl 6 rfl) ?_
    refine z_iadd hx hb dX4_sameDots_69 ?_
    refine lv_istore (lv' := [(7, .int (iZ (((x2 * 64) + (i5 * v_a1_wide)) + i6))), (0, .ref h_a1), (1, .int (iZ x2)), (2, .int (iZ x3)), (3, .int (iZ x4)), (4, .int (iZ i4)), (5, .int (iZ i5)), (6, .int (iZ i6))]) hx hb dX4_sameDots_70 hl (by decide) rfl (fun ls hl => ?_)
    refine lv_iload hx hb dX4_sameDots_72 (lv_at hl 0 rfl) ?_
    refine z_bipush hx hb dX4_sameDots_74 (by decide) ?_
    refine z_iadd hx hb dX4_sameDots_76 ?_
    refine lv_iload_n hx hb dX4_sameDots_77 rfl (lv_at hl 4 rfl) ?_
    refine lv_aload_n hx hb dX4_sameDots_78 rfl (lv_at hl 1 rfl) ?_
    refine va_get (D := D) (ci := 2) (v := .int (iZ v_a1_wide)) (C := RX2) (T := TX2) (N := 8) hx hb hq in_wsX20 hown hK hP 0 rfl rfl 5 (by decide) (hq _ q286) (fun _ h9 => h9) rfl dX4_sameDots_79 ?_
    refine z_imul hx hb dX4_sameDots_82 ?_
    refine z_iadd hx hb dX4_sameDots_83 ?_
    refine lv_iload_n hx hb dX4_sameDots_84 rfl (lv_at hl 3 rfl) ?_
    refine z_iadd hx hb dX4_sameDots_85 ?_
    refine lv_istore (lv' := [(8, .int (iZ ((((((x2 * 64) + (i5 * v_a1_wide)) + i6) + 64) + (x4 * v_a1_wide)) + x3))), (7, .int (iZ (((x2 * 64) + (i5 * v_a1_wide)) + i6))), (0, .ref h_a1), (1, .int (iZ x2)), (2, .int (iZ x3)), (3, .int (iZ x4)), (4, .int (iZ i4)), (5, .int (iZ i5)), (6, .int (iZ i6))]) hx hb dX4_sameDots_86 hl (by decide) rfl (fun ls hl => ?_)
    refine lv_iload hx hb dX4_sameDots_88 (lv_at hl 6 rfl) ?_
    refine lv_aload_n hx hb dX4_sameDots_90 rfl (lv_at hl 2 rfl) ?_
    refine va_get (D := D) (ci := 2) (v := .ref h_a1_dots) (C := RX2) (T := TX2) (N := 8) hx hb hq in_wsX20 hown hK hP 0 rfl rfl 0 (by decide) (hq _ q287) (fun _ h9 => h9) rfl dX4_sameDots_91 ?_
    refine lv_iload hx hb dX4_sameDots_94 (lv_at hl 1 rfl) ?_
    obtain ⟨g3, h⟩ := gd_some h
    refine z_iald hx hb hK hP 1 0 rfl rfl (Nat.le_of_ble_eq_true rfl) g3 dX4_sameDots_96 ?_
    refine lv_aload_n hx hb dX4_sameDots_97 rfl (lv_at hl 2 rfl) ?_
    refine va_get (D := D) (ci := 2) (v := .ref h_a1_dots) (C := RX2) (T := TX2) (N := 8) hx hb hq in_wsX20 hown hK hP 0 rfl rfl 0 (by decide) (hq _ q287) (fun _ h9 => h9) rfl dX4_sameDots_98 ?_
    refine lv_iload hx hb dX4_sameDots_101 (lv_at hl 0 rfl) ?_
    obtain ⟨g4, h⟩ := gd_some h
    refine z_iald hx hb hK hP 1 0 rfl rfl (Nat.le_of_ble_eq_true rfl) g4 dX4_sameDots_103 ?_
    refine z_icmp_ne (tgt := 111) hx hb dX4_sameDots_104 (by decide) (fun c5 => ?_) (fun c5 => ?_)
    · rw [if_neg c5] at h
      refine z_iconst hx hb dX4_sameDots_111 ?_
      refine z_iadd hx hb dX4_sameDots_112 ?_
      refine lv_istore (lv' := [(4, .int (iZ (i4 + 0))), (8, .int (iZ ((((((x2 * 64) + (i5 * v_a1_wide)) + i6) + 64) + (x4 * v_a1_wide)) + x3))), (7, .int (iZ (((x2 * 64) + (i5 * v_a1_wide)) + i6))), (0, .ref h_a1), (1, .int (iZ x2)), (2, .int (iZ x3)), (3, .int (iZ x4)), (5, .int (iZ i5)), (6, .int (iZ i6))]) hx hb dX4_sameDots_113 hl (by decide) rfl (fun ls hl => ?_)
      refine z_iinc (lv' := [(6, .int (iZ (i6 + 1))), (4, .int (iZ (i4 + 0))), (8, .int (iZ ((((((x2 * 64) + (i5 * v_a1_wide)) + i6) + 64) + (x4 * v_a1_wide)) + x3))), (7, .int (iZ (((x2 * 64) + (i5 * v_a1_wide)) + i6))), (0, .ref h_a1), (1, .int (iZ x2)), (2, .int (iZ x3)), (3, .int (iZ x4)), (5, .int (iZ i5))]) hx hb dX4_sameDots_115 hl (k := 8) rfl (by decide) rfl (fun ls hl => ?_)
      refine lv_goto (tgt := 37) hx hb dX4_sameDots_118 (by decide) ?_
      exact hrec (i4 + 0) i5 (i6 + 1) h H locs hP hD hS ls (lv_sub hl [4, 5, 6, 7, 1, 8, 0] rfl)
    · rw [if_pos c5] at h
      refine z_iconst hx hb dX4_sameDots_107 ?_
      refine lv_goto (tgt := 112) hx hb dX4_sameDots_108 (by decide) ?_
      refine z_iadd hx hb dX4_sameDots_112 ?_
      refine lv_istore (lv' := [(4, .int (iZ (i4 + 1))), (8, .int (iZ ((((((x2 * 64) + (i5 * v_a1_wide)) + i6) + 64) + (x4 * v_a1_wide)) + x3))), (7, .int (iZ (((x2 * 64) + (i5 * v_a1_wide)) + i6))), (0, .ref h_a1), (1, .int (iZ x2)), (2, .int (iZ x3)), (3, .int (iZ x4)), (5, .int (iZ i5)), (6, .int (iZ i6))]) hx hb dX4_sameDots_113 hl (by decide) rfl (fun ls hl => ?_)
      refine z_iinc (lv' := [(6, .int (iZ (i6 + 1))), (4, .int (iZ (i4 + 1))), (8, .int (iZ ((((((x2 * 64) + (i5 * v_a1_wide)) + i6) + 64) + (x4 * v_a1_wide)) + x3))), (7, .int (iZ (((x2 * 64) + (i5 * v_a1_wide)) + i6))), (0, .ref h_a1), (1, .int (iZ x2)), (2, .int (iZ x3)), (3, .int (iZ x4)), (5, .int (iZ i5))]) hx hb dX4_sameDots_115 hl (k := 8) rfl (by decide) rfl (fun ls hl => ?_)
      refine lv_goto (tgt := 37) hx hb dX4_sameDots_118 (by decide) ?_
      exact hrec (i4 + 1) i5 (i6 + 1) h H locs hP hD hS ls (lv_sub hl [4, 5, 6, 7, 1, 8, 0] rfl)
theorem wX4_sameDots_L37 (p : Program) (l : Launch) (e : Env) (s : State) (m : MethodId) (args : Array Value) (below : List Frame) (meth : Method) (c : Code) (Q : State → Prop) (G : ZG) (D : va_G) (cA : Nat → ClassId) (A : Nat → Prop) (h_a1 h_a1_dots h_a1_cuts h_a1_skips h_a1_settings h_a1_weights : Nat) (v_a1_wide : Int) (v_a1_high : Int) (v_a1_frames : Int) (f_a1_dots : Nat → Int) (x2 : Int) (x3 : Int) (x4 : Int) (N : Nat) (C : CallFix p m c cX4_sameDots 9 s args vX4_sameDots RX4) (hK : va_K D vwCl (zT cA) s) (hA : ∀ q, s.heap.size ≤ q → A q) (hZ : zSt G A s s.heap) (r : Int) (kr : kX4_sameDots p l e s m args below meth c Q G D cA A h_a1 h_a1_dots h_a1_cuts h_a1_skips h_a1_settings h_a1_weights v_a1_wide v_a1_high v_a1_frames f_a1_dots x2 x3 x4 N r) (k : Int → Int → Option (Int)) (hk : ∀ (i4 : Int) (i5 : Int), k i4 i5 = some r → sX4_sameDots_121 p l e s m args below meth c Q G D cA A h_a1 h_a1_dots h_a1_cuts h_a1_skips h_a1_settings h_a1_weights v_a1_wide v_a1_high v_a1_frames f_a1_dots x2 x3 x4 N i4 i5) : ∀ (n : Nat) (i4 : Int) (i5 : Int) (i6 : Int), fX4_sameDots_L37 N v_a1_wide v_a1_high f_a1_dots x2 x3 x4 k n i4 i5 i6 = some r → sX4_sameDots_37 p l e s m args below meth c Q G D cA A h_a1 h_a1_dots h_a1_cuts h_a1_skips h_a1_settings h_a1_weights v_a1_wide v_a1_high v_a1_frames f_a1_dots x2 x3 x4 N i4 i5 i6 := by
  intro n
  induction n with
  | zero =>
    intro i4 i5 i6 h
    have h : none = some r := h
    cases h
  | succ n ih =>
    intro i4 i5 i6 h
    exact wX4_sameDots_b37 p l e s m args below meth c Q G D cA A h_a1 h_a1_dots h_a1_cuts h_a1_skips h_a1_settings h_a1_weights v_a1_wide v_a1_high v_a1_frames f_a1_dots x2 x3 x4 N C hK hA hZ r kr (fX4_sameDots_L37 N v_a1_wide v_a1_high f_a1_dots x2 x3 x4 k n) k ih hk i4 i5 i6 h
set_option maxHeartbeats 4000000 in
set_option maxRecDepth 100000 in
theorem wX4_sameDots_j121 (p : Program) (l : Launch) (e : Env) (s : State) (m : MethodId) (args : Array Value) (below : List Frame) (meth : Method) (c : Code) (Q : State → Prop) (G : ZG) (D : va_G) (cA : Nat → ClassId) (A : Nat → Prop) (h_a1 h_a1_dots h_a1_cuts h_a1_skips h_a1_settings h_a1_weights : Nat) (v_a1_wide : Int) (v_a1_high : Int) (v_a1_frames : Int) (f_a1_dots : Nat → Int) (x2 : Int) (x3 : Int) (x4 : Int) (N : Nat) (C : CallFix p m c cX4_sameDots 9 s args vX4_sameDots RX4) (hK : va_K D vwCl (zT cA) s) (hA : ∀ q, s.heap.size ≤ q → A q) (hZ : zSt G A s s.heap) (r : Int) (kr : kX4_sameDots p l e s m args below meth c Q G D cA A h_a1 h_a1_dots h_a1_cuts h_a1_skips h_a1_settings h_a1_weights v_a1_wide v_a1_high v_a1_frames f_a1_dots x2 x3 x4 N r) (rec : Int → Int → Option (Int)) (k : Int → Option (Int)) (hrec : ∀ (i4 : Int) (i5 : Int), rec i4 i5 = some r → sX4_sameDots_11 p l e s m args below meth c Q G D cA A h_a1 h_a1_dots h_a1_cuts h_a1_skips h_a1_settings h_a1_weights v_a1_wide v_a1_high v_a1_frames f_a1_dots x2 x3 x4 N i4 i5) (hk : ∀ (i4 : Int), k i4 = some r → sX4_sameDots_127 p l e s m args below meth c Q G D cA A h_a1 h_a1_dots h_a1_cuts h_a1_skips h_a1_settings h_a1_weights v_a1_wide v_a1_high v_a1_frames f_a1_dots x2 x3 x4 N i4) (i4 : Int) (i5 : Int) (h : fX4_sameDots_j121 N v_a1_wide v_a1_high f_a1_dots x2 x3 x4 rec k i4 i5 = some r) : sX4_sameDots_121 p l e s m args below meth c Q G D cA A h_a1 h_a1_dots h_a1_cuts h_a1_skips h_a1_settings h_a1_weights v_a1_wide v_a1_high v_a1_frames f_a1_dots x2 x3 x4 N i4 i5 := by
  obtain ⟨hx, hb, hml, hown, hts⟩ := id C
  have hq : ∀ w ∈ wAll, w.before args s = true := fun w h => hts w (List.mem_cons_of_mem _ h)
  intro H locs hP hD hS ls hl
  unfold fX4_sameDots_j121 at h
  refine z_iinc (lv' := [(5, .int (iZ (i5 + 1))), (0, .ref h_a1), (1, .int (iZ x2)), (2, .int (iZ x3)), (3, .int (iZ x4)), (4, .int (iZ i4))]) hx hb dX4_sameDots_121 hl (k := 5) rfl (by decide) rfl (fun ls hl => ?_)
  refine lv_goto (tgt := 11) hx hb dX4_sameDots_124 (by decide) ?_
  exact hrec i4 (i5 + 1) h H locs hP hD hS ls (lv_sub hl [1, 2, 3, 4, 5, 0] rfl)
set_option maxHeartbeats 4000000 in
set_option maxRecDepth 100000 in
theorem wX4_sameDots_b11 (p : Program) (l : Launch) (e : Env) (s : State) (m : MethodId) (args : Array Value) (below : List Frame) (meth : Method) (c : Code) (Q : State → Prop) (G : ZG) (D : va_G) (cA : Nat → ClassId) (A : Nat → Prop) (h_a1 h_a1_dots h_a1_cuts h_a1_skips h_a1_settings h_a1_weights : Nat) (v_a1_wide : Int) (v_a1_high : Int) (v_a1_frames : Int) (f_a1_dots : Nat → Int) (x2 : Int) (x3 : Int) (x4 : Int) (N : Nat) (C : CallFix p m c cX4_sameDots 9 s args vX4_sameDots RX4) (hK : va_K D vwCl (zT cA) s) (hA : ∀ q, s.heap.size ≤ q → A q) (hZ : zSt G A s s.heap) (r : Int) (kr : kX4_sameDots p l e s m args below meth c Q G D cA A h_a1 h_a1_dots h_a1_cuts h_a1_skips h_a1_settings h_a1_weights v_a1_wide v_a1_high v_a1_frames f_a1_dots x2 x3 x4 N r) (rec : Int → Int → Option (Int)) (k : Int → Option (Int)) (hrec : ∀ (i4 : Int) (i5 : Int), rec i4 i5 = some r → sX4_sameDots_11 p l e s m args below meth c Q G D cA A h_a1 h_a1_dots h_a1_cuts h_a1_skips h_a1_settings h_a1_weights v_a1_wide v_a1_high v_a1_frames f_a1_dots x2 x3 x4 N i4 i5) (hk : ∀ (i4 : Int), k i4 = some r → sX4_sameDots_127 p l e s m args below meth c Q G D cA A h_a1 h_a1_dots h_a1_cuts h_a1_skips h_a1_settings h_a1_weights v_a1_wide v_a1_high v_a1_frames f_a1_dots x2 x3 x4 N i4) (i4 : Int) (i5 : Int) (h : fX4_sameDots_b11 N v_a1_wide v_a1_high f_a1_dots x2 x3 x4 rec k i4 i5 = some r) : sX4_sameDots_11 p l e s m args below meth c Q G D cA A h_a1 h_a1_dots h_a1_cuts h_a1_skips h_a1_settings h_a1_weights v_a1_wide v_a1_high v_a1_frames f_a1_dots x2 x3 x4 N i4 i5 := by
  obtain ⟨hx, hb, hml, hown, hts⟩ := id C
  have hq : ∀ w ∈ wAll, w.before args s = true := fun w h => hts w (List.mem_cons_of_mem _ h)
  intro H locs hP hD hS ls hl
  unfold fX4_sameDots_b11 at h
  refine lv_iload hx hb dX4_sameDots_11 (lv_at hl 5 rfl) ?_
  refine lv_aload_n hx hb dX4_sameDots_13 rfl (lv_at hl 0 rfl) ?_
  refine va_get (D := D) (ci := 2) (v := .int (iZ v_a1_high)) (C := RX2) (T := TX2) (N := 8) hx hb hq in_wsX20 hown hK hP 0 rfl rfl 6 (by decide) (hq _ q284) (fun _ h9 => h9) rfl dX4_sameDots_14 ?_
  refine lv_aload_n hx hb dX4_sameDots_17 rfl (lv_at hl 0 rfl) ?_
  refine va_get (D := D) (ci := 2) (v := .int (iZ v_a1_high)) (C := RX2) (T := TX2) (N := 8) hx hb hq in_wsX20 hown hK hP 0 rfl rfl 6 (by decide) (hq _ q284) (fun _ h9 => h9) rfl dX4_sameDots_18 ?_
  refine lv_iload_n hx hb dX4_sameDots_21 rfl (lv_at hl 3 rfl) ?_
  refine z_isub hx hb dX4_sameDots_22 ?_
  refine z_mmin hx hb (by rw [hml]; exact hl.1.symm) hown (hq _ q285) (hq _ q141) (hq _ q133) (hq _ q142) (Nat.le_of_ble_eq_true rfl) (Nat.le_of_ble_eq_true rfl) (Nat.zero_le _) (Nat.zero_le _) dX4_sameDots_23 ?_
  refine z_icmp_ge (tgt := 127) hx hb dX4_sameDots_26 (by decide) (fun c1 => ?_) (fun c1 => ?_)
  · rw [if_neg c1] at h
    exact hk i4 h H locs hP hD hS ls (lv_sub hl [4] rfl)
  · rw [if_pos c1] at h
    refine z_iconst hx hb dX4_sameDots_29 ?_
    refine lv_iload_n hx hb dX4_sameDots_30 rfl (lv_at hl 2 rfl) ?_
    refine z_ineg hx hb dX4_sameDots_31 ?_
    refine z_mmax hx hb (by rw [hml]; exact hl.1.symm) hown (hq _ q283) (hq _ q132) (hq _ q133) (hq _ q134) (Nat.le_of_ble_eq_true rfl) (Nat.le_of_ble_eq_true rfl) (Nat.zero_le _) (Nat.zero_le _) dX4_sameDots_32 ?_
    refine lv_istore (lv' := [(6, .int (iZ (mxZ 0 (-x3)))), (0, .ref h_a1), (1, .int (iZ x2)), (2, .int (iZ x3)), (3, .int (iZ x4)), (4, .int (iZ i4)), (5, .int (iZ i5))]) hx hb dX4_sameDots_35 hl (by decide) rfl (fun ls hl => ?_)
    exact wX4_sameDots_L37 p l e s m args below meth c Q G D cA A h_a1 h_a1_dots h_a1_cuts h_a1_skips h_a1_settings h_a1_weights v_a1_wide v_a1_high v_a1_frames f_a1_dots x2 x3 x4 N C hK hA hZ r kr (fX4_sameDots_j121 N v_a1_wide v_a1_high f_a1_dots x2 x3 x4 rec k) (fun y0 y1 h9 => wX4_sameDots_j121 p l e s m args below meth c Q G D cA A h_a1 h_a1_dots h_a1_cuts h_a1_skips h_a1_settings h_a1_weights v_a1_wide v_a1_high v_a1_frames f_a1_dots x2 x3 x4 N C hK hA hZ r kr rec k hrec hk y0 y1 h9) N i4 i5 (mxZ 0 (-x3)) h H locs hP hD hS ls (lv_sub hl [1, 2, 3, 4, 5, 6, 0] rfl)
theorem wX4_sameDots_L11 (p : Program) (l : Launch) (e : Env) (s : State) (m : MethodId) (args : Array Value) (below : List Frame) (meth : Method) (c : Code) (Q : State → Prop) (G : ZG) (D : va_G) (cA : Nat → ClassId) (A : Nat → Prop) (h_a1 h_a1_dots h_a1_cuts h_a1_skips h_a1_settings h_a1_weights : Nat) (v_a1_wide : Int) (v_a1_high : Int) (v_a1_frames : Int) (f_a1_dots : Nat → Int) (x2 : Int) (x3 : Int) (x4 : Int) (N : Nat) (C : CallFix p m c cX4_sameDots 9 s args vX4_sameDots RX4) (hK : va_K D vwCl (zT cA) s) (hA : ∀ q, s.heap.size ≤ q → A q) (hZ : zSt G A s s.heap) (r : Int) (kr : kX4_sameDots p l e s m args below meth c Q G D cA A h_a1 h_a1_dots h_a1_cuts h_a1_skips h_a1_settings h_a1_weights v_a1_wide v_a1_high v_a1_frames f_a1_dots x2 x3 x4 N r) (k : Int → Option (Int)) (hk : ∀ (i4 : Int), k i4 = some r → sX4_sameDots_127 p l e s m args below meth c Q G D cA A h_a1 h_a1_dots h_a1_cuts h_a1_skips h_a1_settings h_a1_weights v_a1_wide v_a1_high v_a1_frames f_a1_dots x2 x3 x4 N i4) : ∀ (n : Nat) (i4 : Int) (i5 : Int), fX4_sameDots_L11 N v_a1_wide v_a1_high f_a1_dots x2 x3 x4 k n i4 i5 = some r → sX4_sameDots_11 p l e s m args below meth c Q G D cA A h_a1 h_a1_dots h_a1_cuts h_a1_skips h_a1_settings h_a1_weights v_a1_wide v_a1_high v_a1_frames f_a1_dots x2 x3 x4 N i4 i5 := by
  intro n
  induction n with
  | zero =>
    intro i4 i5 h
    have h : none = some r := h
    cases h
  | succ n ih =>
    intro i4 i5 h
    exact wX4_sameDots_b11 p l e s m args below meth c Q G D cA A h_a1 h_a1_dots h_a1_cuts h_a1_skips h_a1_settings h_a1_weights v_a1_wide v_a1_high v_a1_frames f_a1_dots x2 x3 x4 N C hK hA hZ r kr (fX4_sameDots_L11 N v_a1_wide v_a1_high f_a1_dots x2 x3 x4 k n) k ih hk i4 i5 h
set_option maxHeartbeats 4000000 in
set_option maxRecDepth 100000 in
theorem wX4_sameDots_j127 (p : Program) (l : Launch) (e : Env) (s : State) (m : MethodId) (args : Array Value) (below : List Frame) (meth : Method) (c : Code) (Q : State → Prop) (G : ZG) (D : va_G) (cA : Nat → ClassId) (A : Nat → Prop) (h_a1 h_a1_dots h_a1_cuts h_a1_skips h_a1_settings h_a1_weights : Nat) (v_a1_wide : Int) (v_a1_high : Int) (v_a1_frames : Int) (f_a1_dots : Nat → Int) (x2 : Int) (x3 : Int) (x4 : Int) (N : Nat) (C : CallFix p m c cX4_sameDots 9 s args vX4_sameDots RX4) (hK : va_K D vwCl (zT cA) s) (hA : ∀ q, s.heap.size ≤ q → A q) (hZ : zSt G A s s.heap) (r : Int) (kr : kX4_sameDots p l e s m args below meth c Q G D cA A h_a1 h_a1_dots h_a1_cuts h_a1_skips h_a1_settings h_a1_weights v_a1_wide v_a1_high v_a1_frames f_a1_dots x2 x3 x4 N r) (i4 : Int) (h : fX4_sameDots_j127 N v_a1_wide v_a1_high f_a1_dots x2 x3 x4 i4 = some r) : sX4_sameDots_127 p l e s m args below meth c Q G D cA A h_a1 h_a1_dots h_a1_cuts h_a1_skips h_a1_settings h_a1_weights v_a1_wide v_a1_high v_a1_frames f_a1_dots x2 x3 x4 N i4 := by
  obtain ⟨hx, hb, hml, hown, hts⟩ := id C
  have hq : ∀ w ∈ wAll, w.before args s = true := fun w h => hts w (List.mem_cons_of_mem _ h)
  intro H locs hP hD hS ls hl
  unfold fX4_sameDots_j127 at h
  refine lv_iload hx hb dX4_sameDots_127 (lv_at hl 0 rfl) ?_
  cases h
  exact kr _ _ _ _ dX4_sameDots_129 hP hD hS
set_option maxHeartbeats 4000000 in
set_option maxRecDepth 100000 in
theorem wX4_sameDots_E (p : Program) (l : Launch) (e : Env) (s : State) (m : MethodId) (args : Array Value) (below : List Frame) (meth : Method) (c : Code) (Q : State → Prop) (G : ZG) (D : va_G) (cA : Nat → ClassId) (A : Nat → Prop) (h_a1 h_a1_dots h_a1_cuts h_a1_skips h_a1_settings h_a1_weights : Nat) (v_a1_wide : Int) (v_a1_high : Int) (v_a1_frames : Int) (f_a1_dots : Nat → Int) (x2 : Int) (x3 : Int) (x4 : Int) (N : Nat) (C : CallFix p m c cX4_sameDots 9 s args vX4_sameDots RX4) (hK : va_K D vwCl (zT cA) s) (hA : ∀ q, s.heap.size ≤ q → A q) (hZ : zSt G A s s.heap) (r : Int) (kr : kX4_sameDots p l e s m args below meth c Q G D cA A h_a1 h_a1_dots h_a1_cuts h_a1_skips h_a1_settings h_a1_weights v_a1_wide v_a1_high v_a1_frames f_a1_dots x2 x3 x4 N r) (h : fX4_sameDots N v_a1_wide v_a1_high f_a1_dots x2 x3 x4 = some r) (H : Heap) (locs : List Loc) (hP : va_P D vwCl (wX4_sameDots cA h_a1 h_a1_dots h_a1_cuts h_a1_skips h_a1_settings h_a1_weights v_a1_wide v_a1_high v_a1_frames f_a1_dots) H) (hD : va_D A (wX4_sameDots cA h_a1 h_a1_dots h_a1_cuts h_a1_skips h_a1_settings h_a1_weights v_a1_wide v_a1_high v_a1_frames f_a1_dots)) (hS : va_S A s.heap H locs) (ls : Array Slot) (hl : lv_has ls 9 [(0, .ref h_a1), (1, .int (iZ x2)), (2, .int (iZ x3)), (3, .int (iZ x4))]) : W p l e rmX4_sameDots s m args below meth c H locs 0 0 Q (F0 m 0 ls []) := by
  obtain ⟨hx, hb, hml, hown, hts⟩ := id C
  have hq : ∀ w ∈ wAll, w.before args s = true := fun w h => hts w (List.mem_cons_of_mem _ h)
  unfold fX4_sameDots at h
  refine z_iconst hx hb dX4_sameDots_0 ?_
  refine lv_istore (lv' := [(4, .int (iZ 0)), (0, .ref h_a1), (1, .int (iZ x2)), (2, .int (iZ x3)), (3, .int (iZ x4))]) hx hb dX4_sameDots_1 hl (by decide) rfl (fun ls hl => ?_)
  refine z_iconst hx hb dX4_sameDots_3 ?_
  refine lv_iload_n hx hb dX4_sameDots_4 rfl (lv_at hl 4 rfl) ?_
  refine z_ineg hx hb dX4_sameDots_5 ?_
  refine z_mmax hx hb (by rw [hml]; exact hl.1.symm) hown (hq _ q283) (hq _ q132) (hq _ q133) (hq _ q134) (Nat.le_of_ble_eq_true rfl) (Nat.le_of_ble_eq_true rfl) (Nat.zero_le _) (Nat.zero_le _) dX4_sameDots_6 ?_
  refine lv_istore (lv' := [(5, .int (iZ (mxZ 0 (-x4)))), (4, .int (iZ 0)), (0, .ref h_a1), (1, .int (iZ x2)), (2, .int (iZ x3)), (3, .int (iZ x4))]) hx hb dX4_sameDots_9 hl (by decide) rfl (fun ls hl => ?_)
  exact wX4_sameDots_L11 p l e s m args below meth c Q G D cA A h_a1 h_a1_dots h_a1_cuts h_a1_skips h_a1_settings h_a1_weights v_a1_wide v_a1_high v_a1_frames f_a1_dots x2 x3 x4 N C hK hA hZ r kr (fX4_sameDots_j127 N v_a1_wide v_a1_high f_a1_dots x2 x3 x4) (fun y0 h9 => wX4_sameDots_j127 p l e s m args below meth c Q G D cA A h_a1 h_a1_dots h_a1_cuts h_a1_skips h_a1_settings h_a1_weights v_a1_wide v_a1_high v_a1_frames f_a1_dots x2 x3 x4 N C hK hA hZ r kr y0 h9) N 0 (mxZ 0 (-x4)) h H locs hP hD hS ls (lv_sub hl [2, 3, 4, 5, 1, 0] rfl)
set_option maxHeartbeats 4000000 in
set_option maxRecDepth 100000 in
theorem cX4_sameDots_m (l : Launch) (G : ZG) (D : va_G) (cA : Nat → ClassId) (h_a1 h_a1_dots h_a1_cuts h_a1_skips h_a1_settings h_a1_weights : Nat) (v_a1_wide : Int) (v_a1_high : Int) (v_a1_frames : Int) (f_a1_dots : Nat → Int) (x2 : Int) (x3 : Int) (x4 : Int) (sz N : Nat) {r : Int} (hF : fX4_sameDots N v_a1_wide v_a1_high f_a1_dots x2 x3 x4 = some r) : zMi l yX4_sameDots vX4_sameDots rmX4_sameDots G D cA [.ref h_a1, .int (iZ x2), .int (iZ x3), .int (iZ x4)] (wX4_sameDots cA h_a1 h_a1_dots h_a1_cuts h_a1_skips h_a1_settings h_a1_weights v_a1_wide v_a1_high v_a1_frames f_a1_dots) (wX4_sameDots cA h_a1 h_a1_dots h_a1_cuts h_a1_skips h_a1_settings h_a1_weights v_a1_wide v_a1_high v_a1_frames f_a1_dots) r sz := by
  refine Met.ofW (cc := cX4_sameDots) (maxL := 9) (ret := (some .int)) (by decide) rfl ?_
  intro p e s m args below meth c s₁ B hml hv
  obtain ⟨rfl, hsz, hP, hK, hD0, hZ⟩ := hv
  subst hsz
  have hlocks := B.notSynchronized
  have hl := lv_entry ([.ref h_a1, .int (iZ x2), .int (iZ x3), .int (iZ x4)]) (n := 9) (Nat.le_of_ble_eq_true rfl)
  rw [lg_entry_eq]
  generalize (lg_sl ([.ref h_a1, .int (iZ x2), .int (iZ x3), .int (iZ x4)]) ++ List.replicate (9 - (lg_sl ([.ref h_a1, .int (iZ x2), .int (iZ x3), .int (iZ x4)])).length) Slot.unset).toArray = ls at hl ⊢
  exact wX4_sameDots_E p l e s m _ below meth c _ G D cA _ h_a1 h_a1_dots h_a1_cuts h_a1_skips h_a1_settings h_a1_weights v_a1_wide v_a1_high v_a1_frames f_a1_dots x2 x3 x4 N ⟨B.exec, B.bytes, hml, findClass_of_methodNamed B.named, atoms_spec (ws := vX4_sameDots) B.pre⟩ hK (fun q h => Or.inr h) hZ r (fun pc H locs ls hd hP hD hS => W.iret B.exec B.bytes B.returns (fun t ht hW => ⟨⟨_, (), rfl, rfl, by rw [ht]; exact hP, va_K.moved hW.alike hK, hD⟩, hS.F ht⟩) hS.2.2 hd) hF s.heap [] hP (hD0.self (sz := s.heap.size)) va_S.rf ls hl

/-! ===== FlickerDesk$Move.isShorter(II)Z ===== -/
abbrev rmX4_isShorter : Room := { frames := 1, cells := 0, slots := 0, locals := 24 }
abbrev wX4_isShorter (cA : Nat → ClassId) (h_t : Nat) (v_t_right : Int) (v_t_down : Int) (v_t_dots : Int) : va_W := [(h_t, .inr (4, [.int (iZ v_t_right), .int (iZ v_t_down), .int (iZ v_t_dots)]))]
def fX4_isShorter (N : Nat) (v_t_right : Int) (v_t_down : Int) (x1 : Int) (x2 : Int) : Option (Int) := (if iZ ((abZ x1) + (abZ x2)) < iZ ((abZ v_t_right) + (abZ v_t_down)) then (some 1) else (some 0))
abbrev kX4_isShorter (p : Program) (l : Launch) (e : Env) (s : State) (m : MethodId) (args : Array Value) (below : List Frame) (meth : Method) (c : Code) (Q : State → Prop) (G : ZG) (D : va_G) (cA : Nat → ClassId) (A : Nat → Prop) (h_t : Nat) (v_t_right : Int) (v_t_down : Int) (v_t_dots : Int) (x1 : Int) (x2 : Int) (N : Nat) (r : Int) : Prop := ∀ (pc : Nat) (H : Heap) (locs : List Loc) (ls : Array Slot), decode cX4_isShorter pc = .ok (.ireturn, 1) → narrow .boolean (.int (iZ r)) = .int (iZ r) → va_P D vwCl (wX4_isShorter cA h_t v_t_right v_t_down v_t_dots) H → va_D A (wX4_isShorter cA h_t v_t_right v_t_down v_t_dots) → va_S A s.heap H locs → W p l e rmX4_isShorter s m args below meth c H locs 0 0 Q (F0 m pc ls [.int (iZ r)])
set_option maxHeartbeats 4000000 in
set_option maxRecDepth 100000 in
theorem wX4_isShorter_E (p : Program) (l : Launch) (e : Env) (s : State) (m : MethodId) (args : Array Value) (below : List Frame) (meth : Method) (c : Code) (Q : State → Prop) (G : ZG) (D : va_G) (cA : Nat → ClassId) (A : Nat → Prop) (h_t : Nat) (v_t_right : Int) (v_t_down : Int) (v_t_dots : Int) (x1 : Int) (x2 : Int) (N : Nat) (C : CallFix p m c cX4_isShorter 3 s args vX4_isShorter RX4) (hK : va_K D vwCl (zT cA) s) (hA : ∀ q, s.heap.size ≤ q → A q) (hZ : zSt G A s s.heap) (r : Int) (kr : kX4_isShorter p l e s m args below meth c Q G D cA A h_t v_t_right v_t_down v_t_dots x1 x2 N r) (h : fX4_isShorter N v_t_right v_t_down x1 x2 = some r) (H : Heap) (locs : List Loc) (hP : va_P D vwCl (wX4_isShorter cA h_t v_t_right v_t_down v_t_dots) H) (hD : va_D A (wX4_isShorter cA h_t v_t_right v_t_down v_t_dots)) (hS : va_S A s.heap H locs) (ls : Array Slot) (hl : lv_has ls 3 [(0, .ref h_t), (1, .int (iZ x1)), (2, .int (iZ x2))]) : W p l e rmX4_isShorter s m args below meth c H locs 0 0 Q (F0 m 0 ls []) := by
  obtain ⟨hx, hb, hml, hown, hts⟩ := id C
  have hq : ∀ w ∈ wAll, w.before args s = true := fun w h => hts w (List.mem_cons_of_mem _ h)
  unfold fX4_isShorter at h
  refine lv_iload_n hx hb dX4_isShorter_0 rfl (lv_at hl 1 rfl) ?_
  refine z_mabs hx hb (by rw [hml]; exact hl.1.symm) hown (hq _ q289) (hq _ q150) (hq _ q133) (hq _ q151) (Nat.le_of_ble_eq_true rfl) (Nat.le_of_ble_eq_true rfl) (Nat.zero_le _) (Nat.zero_le _) dX4_isShorter_1 ?_
  refine lv_iload_n hx hb dX4_isShorter_4 rfl (lv_at hl 2 rfl) ?_
  refine z_mabs hx hb (by rw [hml]; exact hl.1.symm) hown (hq _ q289) (hq _ q150) (hq _ q133) (hq _ q151) (Nat.le_of_ble_eq_true rfl) (Nat.le_of_ble_eq_true rfl) (Nat.zero_le _) (Nat.zero_le _) dX4_isShorter_5 ?_
  refine z_iadd hx hb dX4_isShorter_8 ?_
  refine lv_aload_n hx hb dX4_isShorter_9 rfl (lv_at hl 0 rfl) ?_
  refine va_get (D := D) (ci := 4) (v := .int (iZ v_t_right)) (C := RX4) (T := TX4) (N := 3) hx hb hq in_wsX40 hown hK hP 0 rfl rfl 0 (by decide) (hq _ q290) (fun _ h9 => h9) rfl dX4_isShorter_10 ?_
  refine z_mabs hx hb (by rw [hml]; exact hl.1.symm) hown (hq _ q289) (hq _ q150) (hq _ q133) (hq _ q151) (Nat.le_of_ble_eq_true rfl) (Nat.le_of_ble_eq_true rfl) (Nat.zero_le _) (Nat.zero_le _) dX4_isShorter_13 ?_
  refine lv_aload_n hx hb dX4_isShorter_16 rfl (lv_at hl 0 rfl) ?_
  refine va_get (D := D) (ci := 4) (v := .int (iZ v_t_down)) (C := RX4) (T := TX4) (N := 3) hx hb hq in_wsX40 hown hK hP 0 rfl rfl 1 (by decide) (hq _ q291) (fun _ h9 => h9) rfl dX4_isShorter_17 ?_
  refine z_mabs hx hb (by rw [hml]; exact hl.1.symm) hown (hq _ q289) (hq _ q150) (hq _ q133) (hq _ q151) (Nat.le_of_ble_eq_true rfl) (Nat.le_of_ble_eq_true rfl) (Nat.zero_le _) (Nat.zero_le _) dX4_isShorter_20 ?_
  refine z_iadd hx hb dX4_isShorter_23 ?_
  refine z_icmp_ge (tgt := 31) hx hb dX4_isShorter_24 (by decide) (fun c1 => ?_) (fun c1 => ?_)
  · rw [if_neg c1] at h
    refine z_iconst hx hb dX4_isShorter_31 ?_
    cases h
    exact kr _ _ _ _ dX4_isShorter_32 (zb_nar (Or.inl rfl)) hP hD hS
  · rw [if_pos c1] at h
    refine z_iconst hx hb dX4_isShorter_27 ?_
    refine lv_goto (tgt := 32) hx hb dX4_isShorter_28 (by decide) ?_
    cases h
    exact kr _ _ _ _ dX4_isShorter_32 (zb_nar (Or.inr rfl)) hP hD hS
set_option maxHeartbeats 4000000 in
set_option maxRecDepth 100000 in
theorem cX4_isShorter_m (l : Launch) (G : ZG) (D : va_G) (cA : Nat → ClassId) (h_t : Nat) (v_t_right : Int) (v_t_down : Int) (v_t_dots : Int) (x1 : Int) (x2 : Int) (sz N : Nat) {r : Int} (hF : fX4_isShorter N v_t_right v_t_down x1 x2 = some r) : zMi l yX4_isShorter vX4_isShorter rmX4_isShorter G D cA [.ref h_t, .int (iZ x1), .int (iZ x2)] (wX4_isShorter cA h_t v_t_right v_t_down v_t_dots) (wX4_isShorter cA h_t v_t_right v_t_down v_t_dots) r sz := by
  refine Met.ofW (cc := cX4_isShorter) (maxL := 3) (ret := (some .boolean)) (by decide) rfl ?_
  intro p e s m args below meth c s₁ B hml hv
  obtain ⟨rfl, hsz, hP, hK, hD0, hZ⟩ := hv
  subst hsz
  have hlocks := B.notSynchronized
  have hl := lv_entry ([.ref h_t, .int (iZ x1), .int (iZ x2)]) (n := 3) (Nat.le_of_ble_eq_true rfl)
  rw [lg_entry_eq]
  generalize (lg_sl ([.ref h_t, .int (iZ x1), .int (iZ x2)]) ++ List.replicate (3 - (lg_sl ([.ref h_t, .int (iZ x1), .int (iZ x2)])).length) Slot.unset).toArray = ls at hl ⊢
  exact wX4_isShorter_E p l e s m _ below meth c _ G D cA _ h_t v_t_right v_t_down v_t_dots x1 x2 N ⟨B.exec, B.bytes, hml, findClass_of_methodNamed B.named, atoms_spec (ws := vX4_isShorter) B.pre⟩ hK (fun q h => Or.inr h) hZ r (fun pc H locs ls hd hnar hP hD hS => W.zret B.exec B.bytes B.returns hnar (fun t ht hW => ⟨⟨_, (), rfl, rfl, by rw [ht]; exact hP, va_K.moved hW.alike hK, hD⟩, hS.F ht⟩) hS.2.2 hd) hF s.heap [] hP (hD0.self (sz := s.heap.size)) va_S.rf ls hl

/-! ===== FlickerDesk$Move.work(LFlickerDesk$Film;I)V ===== -/
abbrev rmX4_work : Room := { frames := 2, cells := 0, slots := 0, locals := 52 }
abbrev wX4_work (cA : Nat → ClassId) (h_t h_a1 h_a1_dots h_a1_cuts h_a1_skips h_a1_settings h_a1_weights : Nat) (v_t_right : Int) (v_t_down : Int) (v_t_dots : Int) (v_a1_wide : Int) (v_a1_high : Int) (v_a1_frames : Int) (f_a1_dots : Nat → Int) : va_W := [(h_t, .inr (4, [.int (iZ v_t_right), .int (iZ v_t_down), .int (iZ v_t_dots)])), (h_a1, .inr (2, [.ref h_a1_dots, .ref h_a1_cuts, .ref h_a1_skips, .ref h_a1_settings, .ref h_a1_weights, .int (iZ v_a1_wide), .int (iZ v_a1_high), .int (iZ v_a1_frames)])), (h_a1_dots, zA (cA 0) 1536 f_a1_dots)]
def fX4_work_b17 (N : Nat) (v_a1_wide : Int) (v_a1_high : Int) (f_a1_dots : Nat → Int) (x2 : Int) (rec : Int → Int → Int → Int → Int → Option (Int × Int × Int)) (k : Int → Int → Int → Int → Option (Int × Int × Int)) (i3 : Int) (i4 : Int) (v_t_right : Int) (v_t_down : Int) (v_t_dots : Int) : Option (Int × Int × Int) := (if iZ 2 < iZ i4 then (k i3 v_t_right v_t_down v_t_dots) else ((fX4_sameDots N v_a1_wide v_a1_high f_a1_dots x2 i3 i4).bind fun r3 => (if iZ v_t_dots < iZ r3 then (rec i3 (i4 + 1) i3 i4 r3) else (if iZ r3 = iZ v_t_dots then ((fX4_isShorter N v_t_right v_t_down i3 i4).bind fun r6 => (if iZ r6 = iZ 0 then (rec i3 (i4 + 1) v_t_right v_t_down v_t_dots) else (rec i3 (i4 + 1) i3 i4 r3))) else (rec i3 (i4 + 1) v_t_right v_t_down v_t_dots)))))
def fX4_work_L17 (N : Nat) (v_a1_wide : Int) (v_a1_high : Int) (f_a1_dots : Nat → Int) (x2 : Int) (k : Int → Int → Int → Int → Option (Int × Int × Int)) : Nat → Int → Int → Int → Int → Int → Option (Int × Int × Int)
  | 0 => fun _ _ _ _ _ => none
  | n + 1 => fX4_work_b17 N v_a1_wide v_a1_high f_a1_dots x2 (fX4_work_L17 N v_a1_wide v_a1_high f_a1_dots x2 k n) k
def fX4_work_j84 (N : Nat) (v_a1_wide : Int) (v_a1_high : Int) (f_a1_dots : Nat → Int) (x2 : Int) (rec : Int → Int → Int → Int → Option (Int × Int × Int)) (k : Int → Int → Int → Option (Int × Int × Int)) (i3 : Int) (v_t_right : Int) (v_t_down : Int) (v_t_dots : Int) : Option (Int × Int × Int) := (rec (i3 + 1) v_t_right v_t_down v_t_dots)
def fX4_work_b8 (N : Nat) (v_a1_wide : Int) (v_a1_high : Int) (f_a1_dots : Nat → Int) (x2 : Int) (rec : Int → Int → Int → Int → Option (Int × Int × Int)) (k : Int → Int → Int → Option (Int × Int × Int)) (i3 : Int) (v_t_right : Int) (v_t_down : Int) (v_t_dots : Int) : Option (Int × Int × Int) := (if iZ 2 < iZ i3 then (k v_t_right v_t_down v_t_dots) else (fX4_work_L17 N v_a1_wide v_a1_high f_a1_dots x2 (fX4_work_j84 N v_a1_wide v_a1_high f_a1_dots x2 rec k) N i3 ((-2)) v_t_right v_t_down v_t_dots))
def fX4_work_L8 (N : Nat) (v_a1_wide : Int) (v_a1_high : Int) (f_a1_dots : Nat → Int) (x2 : Int) (k : Int → Int → Int → Option (Int × Int × Int)) : Nat → Int → Int → Int → Int → Option (Int × Int × Int)
  | 0 => fun _ _ _ _ => none
  | n + 1 => fX4_work_b8 N v_a1_wide v_a1_high f_a1_dots x2 (fX4_work_L8 N v_a1_wide v_a1_high f_a1_dots x2 k n) k
def fX4_work_j90 (N : Nat) (v_a1_wide : Int) (v_a1_high : Int) (f_a1_dots : Nat → Int) (x2 : Int) (v_t_right : Int) (v_t_down : Int) (v_t_dots : Int) : Option (Int × Int × Int) := (some ((v_t_right, v_t_down, v_t_dots)))
def fX4_work (N : Nat) (v_a1_wide : Int) (v_a1_high : Int) (f_a1_dots : Nat → Int) (v_t_right : Int) (v_t_down : Int) (v_t_dots : Int) (x2 : Int) : Option (Int × Int × Int) := (fX4_work_L8 N v_a1_wide v_a1_high f_a1_dots x2 (fX4_work_j90 N v_a1_wide v_a1_high f_a1_dots x2) N ((-2)) v_t_right v_t_down ((-1)))
abbrev kX4_work (p : Program) (l : Launch) (e : Env) (s : State) (m : MethodId) (args : Array Value) (below : List Frame) (meth : Method) (c : Code) (Q : State → Prop) (G : ZG) (D : va_G) (cA : Nat → ClassId) (A : Nat → Prop) (h_t h_a1 h_a1_dots h_a1_cuts h_a1_skips h_a1_settings h_a1_weights : Nat) (v_a1_wide : Int) (v_a1_high : Int) (v_a1_frames : Int) (f_a1_dots : Nat → Int) (x2 : Int) (N : Nat) (r : Int × Int × Int) : Prop := ∀ (pc : Nat) (H : Heap) (locs : List Loc) (ls : Array Slot), decode cX4_work pc = .ok (.return_, 1) → va_P D vwCl (wX4_work cA h_t h_a1 h_a1_dots h_a1_cuts h_a1_skips h_a1_settings h_a1_weights r.1 r.2.1 r.2.2 v_a1_wide v_a1_high v_a1_frames f_a1_dots) H → va_D A (wX4_work cA h_t h_a1 h_a1_dots h_a1_cuts h_a1_skips h_a1_settings h_a1_weights r.1 r.2.1 r.2.2 v_a1_wide v_a1_high v_a1_frames f_a1_dots) → va_S A s.heap H locs → W p l e rmX4_work s m args below meth c H locs 0 0 Q (F0 m pc ls [])
abbrev sX4_work_84 (p : Program) (l : Launch) (e : Env) (s : State) (m : MethodId) (args : Array Value) (below : List Frame) (meth : Method) (c : Code) (Q : State → Prop) (G : ZG) (D : va_G) (cA : Nat → ClassId) (A : Nat → Prop) (h_t h_a1 h_a1_dots h_a1_cuts h_a1_skips h_a1_settings h_a1_weights : Nat) (v_a1_wide : Int) (v_a1_high : Int) (v_a1_frames : Int) (f_a1_dots : Nat → Int) (x2 : Int) (N : Nat) (i3 : Int) (v_t_right : Int) (v_t_down : Int) (v_t_dots : Int) : Prop := ∀ (H : Heap) (locs : List Loc), va_P D vwCl (wX4_work cA h_t h_a1 h_a1_dots h_a1_cuts h_a1_skips h_a1_settings h_a1_weights v_t_right v_t_down v_t_dots v_a1_wide v_a1_high v_a1_frames f_a1_dots) H → va_D A (wX4_work cA h_t h_a1 h_a1_dots h_a1_cuts h_a1_skips h_a1_settings h_a1_weights v_t_right v_t_down v_t_dots v_a1_wide v_a1_high v_a1_frames f_a1_dots) → va_S A s.heap H locs → ∀ ls : Array Slot, lv_has ls 6 [(0, .ref h_t), (1, .ref h_a1), (2, .int (iZ x2)), (3, .int (iZ i3))] → W p l e rmX4_work s m args below meth c H locs 0 0 Q (F0 m 84 ls [])
abbrev sX4_work_17 (p : Program) (l : Launch) (e : Env) (s : State) (m : MethodId) (args : Array Value) (below : List Frame) (meth : Method) (c : Code) (Q : State → Prop) (G : ZG) (D : va_G) (cA : Nat → ClassId) (A : Nat → Prop) (h_t h_a1 h_a1_dots h_a1_cuts h_a1_skips h_a1_settings h_a1_weights : Nat) (v_a1_wide : Int) (v_a1_high : Int) (v_a1_frames : Int) (f_a1_dots : Nat → Int) (x2 : Int) (N : Nat) (i3 : Int) (i4 : Int) (v_t_right : Int) (v_t_down : Int) (v_t_dots : Int) : Prop := ∀ (H : Heap) (locs : List Loc), va_P D vwCl (wX4_work cA h_t h_a1 h_a1_dots h_a1_cuts h_a1_skips h_a1_settings h_a1_weights v_t_right v_t_down v_t_dots v_a1_wide v_a1_high v_a1_frames f_a1_dots) H → va_D A (wX4_work cA h_t h_a1 h_a1_dots h_a1_cuts h_a1_skips h_a1_settings h_a1_weights v_t_right v_t_down v_t_dots v_a1_wide v_a1_high v_a1_frames f_a1_dots) → va_S A s.heap H locs → ∀ ls : Array Slot, lv_has ls 6 [(0, .ref h_t), (1, .ref h_a1), (2, .int (iZ x2)), (3, .int (iZ i3)), (4, .int (iZ i4))] → W p l e rmX4_work s m args below meth c H locs 0 0 Q (F0 m 17 ls [])
abbrev sX4_work_90 (p : Program) (l : Launch) (e : Env) (s : State) (m : MethodId) (args : Array Value) (below : List Frame) (meth : Method) (c : Code) (Q : State → Prop) (G : ZG) (D : va_G) (cA : Nat → ClassId) (A : Nat → Prop) (h_t h_a1 h_a1_dots h_a1_cuts h_a1_skips h_a1_settings h_a1_weights : Nat) (v_a1_wide : Int) (v_a1_high : Int) (v_a1_frames : Int) (f_a1_dots : Nat → Int) (x2 : Int) (N : Nat) (v_t_right : Int) (v_t_down : Int) (v_t_dots : Int) : Prop := ∀ (H : Heap) (locs : List Loc), va_P D vwCl (wX4_work cA h_t h_a1 h_a1_dots h_a1_cuts h_a1_skips h_a1_settings h_a1_weights v_t_right v_t_down v_t_dots v_a1_wide v_a1_high v_a1_frames f_a1_dots) H → va_D A (wX4_work cA h_t h_a1 h_a1_dots h_a1_cuts h_a1_skips h_a1_settings h_a1_weights v_t_right v_t_down v_t_dots v_a1_wide v_a1_high v_a1_frames f_a1_dots) → va_S A s.heap H locs → ∀ ls : Array Slot, lv_has ls 6 [] → W p l e rmX4_work s m args below meth c H locs 0 0 Q (F0 m 90 ls [])
abbrev sX4_work_8 (p : Program) (l : Launch) (e : Env) (s : State) (m : MethodId) (args : Array Value) (below : List Frame) (meth : Method) (c : Code) (Q : State → Prop) (G : ZG) (D : va_G) (cA : Nat → ClassId) (A : Nat → Prop) (h_t h_a1 h_a1_dots h_a1_cuts h_a1_skips h_a1_settings h_a1_weights : Nat) (v_a1_wide : Int) (v_a1_high : Int) (v_a1_frames : Int) (f_a1_dots : Nat → Int) (x2 : Int) (N : Nat) (i3 : Int) (v_t_right : Int) (v_t_down : Int) (v_t_dots : Int) : Prop := ∀ (H : Heap) (locs : List Loc), va_P D vwCl (wX4_work cA h_t h_a1 h_a1_dots h_a1_cuts h_a1_skips h_a1_settings h_a1_weights v_t_right v_t_down v_t_dots v_a1_wide v_a1_high v_a1_frames f_a1_dots) H → va_D A (wX4_work cA h_t h_a1 h_a1_dots h_a1_cuts h_a1_skips h_a1_settings h_a1_weights v_t_right v_t_down v_t_dots v_a1_wide v_a1_high v_a1_frames f_a1_dots) → va_S A s.heap H locs → ∀ ls : Array Slot, lv_has ls 6 [(0, .ref h_t), (1, .ref h_a1), (2, .int (iZ x2)), (3, .int (iZ i3))] → W p l e rmX4_work s m args below meth c H locs 0 0 Q (F0 m 8 ls [])
set_option maxHeartbeats 4000000 in
set_option maxRecDepth 100000 in
theorem wX4_work_b17 (p : Program) (l : Launch) (e : Env) (s : State) (m : MethodId) (args : Array Value) (below : List Frame) (meth : Method) (c : Code) (Q : State → Prop) (G : ZG) (D : va_G) (cA : Nat → ClassId) (A : Nat → Prop) (h_t h_a1 h_a1_dots h_a1_cuts h_a1_skips h_a1_settings h_a1_weights : Nat) (v_a1_wide : Int) (v_a1_high : Int) (v_a1_frames : Int) (f_a1_dots : Nat → Int) (x2 : Int) (N : Nat) (C : CallFix p m c cX4_work 6 s args vX4_work RX4) (hK : va_K D vwCl (zT cA) s) (hA : ∀ q, s.heap.size ≤ q → A q) (hZ : zSt G A s s.heap) (r : Int × Int × Int) (kr : kX4_work p l e s m args below meth c Q G D cA A h_t h_a1 h_a1_dots h_a1_cuts h_a1_skips h_a1_settings h_a1_weights v_a1_wide v_a1_high v_a1_frames f_a1_dots x2 N r) (rec : Int → Int → Int → Int → Int → Option (Int × Int × Int)) (k : Int → Int → Int → Int → Option (Int × Int × Int)) (hrec : ∀ (i3 : Int) (i4 : Int) (v_t_right : Int) (v_t_down : Int) (v_t_dots : Int), rec i3 i4 v_t_right v_t_down v_t_dots = some r → sX4_work_17 p l e s m args below meth c Q G D cA A h_t h_a1 h_a1_dots h_a1_cuts h_a1_skips h_a1_settings h_a1_weights v_a1_wide v_a1_high v_a1_frames f_a1_dots x2 N i3 i4 v_t_right v_t_down v_t_dots) (hk : ∀ (i3 : Int) (v_t_right : Int) (v_t_down : Int) (v_t_dots : Int), k i3 v_t_right v_t_down v_t_dots = some r → sX4_work_84 p l e s m args below meth c Q G D cA A h_t h_a1 h_a1_dots h_a1_cuts h_a1_skips h_a1_settings h_a1_weights v_a1_wide v_a1_high v_a1_frames f_a1_dots x2 N i3 v_t_right v_t_down v_t_dots) (i3 : Int) (i4 : Int) (v_t_right : Int) (v_t_down : Int) (v_t_dots : Int) (h : fX4_work_b17 N v_a1_wide v_a1_high f_a1_dots x2 rec k i3 i4 v_t_right v_t_down v_t_dots = some r) : sX4_work_17 p l e s m args below meth c Q G D cA A h_t h_a1 h_a1_dots h_a1_cuts h_a1_skips h_a1_settings h_a1_weights v_a1_wide v_a1_high v_a1_frames f_a1_dots x2 N i3 i4 v_t_right v_t_down v_t_dots := by
  obtain ⟨hx, hb, hml, hown, hts⟩ := id C
  have hq : ∀ w ∈ wAll, w.before args s = true := fun w h => hts w (List.mem_cons_of_mem _ h)
  intro H locs hP hD hS ls hl
  unfold fX4_work_b17 at h
  refine lv_iload hx hb dX4_work_17 (lv_at hl 4 rfl) ?_
  refine z_iconst hx hb dX4_work_19 ?_
  refine z_icmp_gt (tgt := 84) hx hb dX4_work_20 (by decide) (fun c2 => ?_) (fun c2 => ?_)
  · rw [if_pos c2] at h
    exact hk i3 v_t_right v_t_down v_t_dots h H locs hP hD hS ls (lv_sub hl [0, 1, 2, 3] rfl)
  · rw [if_neg c2] at h
    refine lv_aload_n hx hb dX4_work_23 rfl (lv_at hl 1 rfl) ?_
    refine lv_iload_n hx hb dX4_work_24 rfl (lv_at hl 2 rfl) ?_
    refine lv_iload_n hx hb dX4_work_25 rfl (lv_at hl 3 rfl) ?_
    refine lv_iload hx hb dX4_work_26 (lv_at hl 4 rfl) ?_
    obtain ⟨r3, e3, h⟩ := bd_some h
    refine z_callSi (G := G) (D := D) (cA := cA) (wc := (wX4_sameDots cA h_a1 h_a1_dots h_a1_cuts h_a1_skips h_a1_settings h_a1_weights v_a1_wide v_a1_high v_a1_frames f_a1_dots)) (wr := [(h_t, .inr (4, [.int (iZ v_t_right), .int (iZ v_t_down), .int (iZ v_t_dots)]))]) (w1 := (wX4_sameDots cA h_a1 h_a1_dots h_a1_cuts h_a1_skips h_a1_settings h_a1_weights v_a1_wide v_a1_high v_a1_frames f_a1_dots)) (ws' := (wX4_work cA h_t h_a1 h_a1_dots h_a1_cuts h_a1_skips h_a1_settings h_a1_weights v_t_right v_t_down v_t_dots v_a1_wide v_a1_high v_a1_frames f_a1_dots)) (r := r3) (As := [.ref h_a1, .int (iZ x2), .int (iZ i3), .int (iZ i4)]) C hK hA hZ hP hD hS [1, 2] [0] [0, 1, 2] rfl rfl rfl (by decide) (cX4_sameDots_m l G D cA h_a1 h_a1_dots h_a1_cuts h_a1_skips h_a1_settings h_a1_weights v_a1_wide v_a1_high v_a1_frames f_a1_dots x2 i3 i4 H.size N e3) (va_cwS 4 hts (gAllS q294 q295 q296 q282) rfl rfl rfl (by decide +kernel) ⟨Nat.le_of_ble_eq_true rfl, Nat.le_of_ble_eq_true rfl⟩) rfl hl.1 rfl (Nat.le_of_ble_eq_true rfl) ⟨Nat.zero_le _, Nat.zero_le _⟩ dX4_work_28 (fun H locs hP hD hS => ?_)
    refine lv_istore (lv' := [(5, .int (iZ r3)), (0, .ref h_t), (1, .ref h_a1), (2, .int (iZ x2)), (3, .int (iZ i3)), (4, .int (iZ i4))]) hx hb dX4_work_31 hl (by decide) rfl (fun ls hl => ?_)
    refine lv_iload hx hb dX4_work_33 (lv_at hl 0 rfl) ?_
    refine lv_aload_n hx hb dX4_work_35 rfl (lv_at hl 1 rfl) ?_
    refine va_get (D := D) (ci := 4) (v := .int (iZ v_t_dots)) (C := RX4) (T := TX4) (N := 3) hx hb hq in_wsX40 hown hK hP 0 rfl rfl 2 (by decide) (hq _ q293) (fun _ h9 => h9) rfl dX4_work_36 ?_
    refine z_icmp_gt (tgt := 61) hx hb dX4_work_39 (by decide) (fun c4 => ?_) (fun c4 => ?_)
    · rw [if_pos c4] at h
      refine lv_aload_n hx hb dX4_work_61 rfl (lv_at hl 1 rfl) ?_
      refine lv_iload_n hx hb dX4_work_62 rfl (lv_at hl 4 rfl) ?_
      refine z_put (ci := 4) (v := .int (iZ i3)) (ty := .int) (C := RX4) (T := TX4) (N := 3) (ws' := (wX4_work cA h_t h_a1 h_a1_dots h_a1_cuts h_a1_skips h_a1_settings h_a1_weights i3 v_t_down v_t_dots v_a1_wide v_a1_high v_a1_frames f_a1_dots)) hx hb hq in_wsX40 tyX4 tyX4_ok nmX4 hown hK hP hD hS 0 rfl rfl 0 (by decide) (hq _ q290) (fun _ h9 => h9) rfl (by decide +kernel) rfl rfl (Nat.le_of_ble_eq_true rfl) rfl dX4_work_63 (fun H locs hP hD hS => ?_)
      refine lv_aload_n hx hb dX4_work_66 rfl (lv_at hl 1 rfl) ?_
      refine lv_iload hx hb dX4_work_67 (lv_at hl 5 rfl) ?_
      refine z_put (ci := 4) (v := .int (iZ i4)) (ty := .int) (C := RX4) (T := TX4) (N := 3) (ws' := (wX4_work cA h_t h_a1 h_a1_dots h_a1_cuts h_a1_skips h_a1_settings h_a1_weights i3 i4 v_t_dots v_a1_wide v_a1_high v_a1_frames f_a1_dots)) hx hb hq in_wsX40 tyX4 tyX4_ok nmX4 hown hK hP hD hS 0 rfl rfl 1 (by decide) (hq _ q291) (fun _ h9 => h9) rfl (by decide +kernel) rfl rfl (Nat.le_of_ble_eq_true rfl) rfl dX4_work_69 (fun H locs hP hD hS => ?_)
      refine lv_aload_n hx hb dX4_work_72 rfl (lv_at hl 1 rfl) ?_
      refine lv_iload hx hb dX4_work_73 (lv_at hl 0 rfl) ?_
      refine z_put (ci := 4) (v := .int (iZ r3)) (ty := .int) (C := RX4) (T := TX4) (N := 3) (ws' := (wX4_work cA h_t h_a1 h_a1_dots h_a1_cuts h_a1_skips h_a1_settings h_a1_weights i3 i4 r3 v_a1_wide v_a1_high v_a1_frames f_a1_dots)) hx hb hq in_wsX40 tyX4 tyX4_ok nmX4 hown hK hP hD hS 0 rfl rfl 2 (by decide) (hq _ q293) (fun _ h9 => h9) rfl (by decide +kernel) rfl rfl (Nat.le_of_ble_eq_true rfl) rfl dX4_work_75 (fun H locs hP hD hS => ?_)
      refine z_iinc (lv' := [(4, .int (iZ (i4 + 1))), (5, .int (iZ r3)), (0, .ref h_t), (1, .ref h_a1), (2, .int (iZ x2)), (3, .int (iZ i3))]) hx hb dX4_work_78 hl (k := 5) rfl (by decide) rfl (fun ls hl => ?_)
      refine lv_goto (tgt := 17) hx hb dX4_work_81 (by decide) ?_
      exact hrec i3 (i4 + 1) i3 i4 r3 h H locs hP hD hS ls (lv_sub hl [2, 3, 4, 5, 0] rfl)
    · rw [if_neg c4] at h
      refine lv_iload hx hb dX4_work_42 (lv_at hl 0 rfl) ?_
      refine lv_aload_n hx hb dX4_work_44 rfl (lv_at hl 1 rfl) ?_
      refine va_get (D := D) (ci := 4) (v := .int (iZ v_t_dots)) (C := RX4) (T := TX4) (N := 3) hx hb hq in_wsX40 hown hK hP 0 rfl rfl 2 (by decide) (hq _ q293) (fun _ h9 => h9) rfl dX4_work_45 ?_
      refine z_icmp_ne (tgt := 78) hx hb dX4_work_48 (by decide) (fun c5 => ?_) (fun c5 => ?_)
      · rw [if_neg c5] at h
        refine z_iinc (lv' := [(4, .int (iZ (i4 + 1))), (5, .int (iZ r3)), (0, .ref h_t), (1, .ref h_a1), (2, .int (iZ x2)), (3, .int (iZ i3))]) hx hb dX4_work_78 hl (k := 5) rfl (by decide) rfl (fun ls hl => ?_)
        refine lv_goto (tgt := 17) hx hb dX4_work_81 (by decide) ?_
        exact hrec i3 (i4 + 1) v_t_right v_t_down v_t_dots h H locs hP hD hS ls (lv_sub hl [2, 3, 4, 5, 0] rfl)
      · rw [if_pos c5] at h
        refine lv_aload_n hx hb dX4_work_51 rfl (lv_at hl 1 rfl) ?_
        refine lv_iload_n hx hb dX4_work_52 rfl (lv_at hl 4 rfl) ?_
        refine lv_iload hx hb dX4_work_53 (lv_at hl 5 rfl) ?_
        obtain ⟨r6, e6, h⟩ := bd_some h
        refine z_callVi (G := G) (D := D) (cA := cA) (wc := (wX4_isShorter cA h_t v_t_right v_t_down v_t_dots)) (wr := [(h_a1, .inr (2, [.ref h_a1_dots, .ref h_a1_cuts, .ref h_a1_skips, .ref h_a1_settings, .ref h_a1_weights, .int (iZ v_a1_wide), .int (iZ v_a1_high), .int (iZ v_a1_frames)])), (h_a1_dots, zA (cA 0) 1536 f_a1_dots)]) (w1 := (wX4_isShorter cA h_t v_t_right v_t_down v_t_dots)) (ws' := (wX4_work cA h_t h_a1 h_a1_dots h_a1_cuts h_a1_skips h_a1_settings h_a1_weights v_t_right v_t_down v_t_dots v_a1_wide v_a1_high v_a1_frames f_a1_dots)) (r := r6) (As := [.int (iZ i3), .int (iZ i4)]) C hK hA hZ hP hD hS [0] [1, 2] [2, 0, 1] rfl rfl rfl (by decide) (cX4_isShorter_m l G D cA h_t v_t_right v_t_down v_t_dots i3 i4 H.size N e6) (cwV 2 hts (gAllV q297 q298 q299 q296 q288) rfl rfl rfl (by decide +kernel) ⟨Nat.le_of_ble_eq_true rfl, Nat.le_of_ble_eq_true rfl⟩) 0 4 rfl rfl rfl rfl hl.1 rfl (Nat.le_of_ble_eq_true rfl) ⟨Nat.zero_le _, Nat.zero_le _⟩ dX4_work_55 (fun H locs hP hD hS => ?_)
        refine z_if_eq (tgt := 78) hx hb dX4_work_58 (by decide) (fun c7 => ?_) (fun c7 => ?_)
        · rw [if_pos c7] at h
          refine z_iinc (lv' := [(4, .int (iZ (i4 + 1))), (5, .int (iZ r3)), (0, .ref h_t), (1, .ref h_a1), (2, .int (iZ x2)), (3, .int (iZ i3))]) hx hb dX4_work_78 hl (k := 5) rfl (by decide) rfl (fun ls hl => ?_)
          refine lv_goto (tgt := 17) hx hb dX4_work_81 (by decide) ?_
          exact hrec i3 (i4 + 1) v_t_right v_t_down v_t_dots h H locs hP hD hS ls (lv_sub hl [2, 3, 4, 5, 0] rfl)
        · rw [if_neg c7] at h
          refine lv_aload_n hx hb dX4_work_61 rfl (lv_at hl 1 rfl) ?_
          refine lv_iload_n hx hb dX4_work_62 rfl (lv_at hl 4 rfl) ?_
          refine z_put (ci := 4) (v := .int (iZ i3)) (ty := .int) (C := RX4) (T := TX4) (N := 3) (ws' := (wX4_work cA h_t h_a1 h_a1_dots h_a1_cuts h_a1_skips h_a1_settings h_a1_weights i3 v_t_down v_t_dots v_a1_wide v_a1_high v_a1_frames f_a1_dots)) hx hb hq in_wsX40 tyX4 tyX4_ok nmX4 hown hK hP hD hS 0 rfl rfl 0 (by decide) (hq _ q290) (fun _ h9 => h9) rfl (by decide +kernel) rfl rfl (Nat.le_of_ble_eq_true rfl) rfl dX4_work_63 (fun H locs hP hD hS => ?_)
          refine lv_aload_n hx hb dX4_work_66 rfl (lv_at hl 1 rfl) ?_
          refine lv_iload hx hb dX4_work_67 (lv_at hl 5 rfl) ?_
          refine z_put (ci := 4) (v := .int (iZ i4)) (ty := .int) (C := RX4) (T := TX4) (N := 3) (ws' := (wX4_work cA h_t h_a1 h_a1_dots h_a1_cuts h_a1_skips h_a1_settings h_a1_weights i3 i4 v_t_dots v_a1_wide v_a1_high v_a1_frames f_a1_dots)) hx hb hq in_wsX40 tyX4 tyX4_ok nmX4 hown hK hP hD hS 0 rfl rfl 1 (by decide) (hq _ q291) (fun _ h9 => h9) rfl (by decide +kernel) rfl rfl (Nat.le_of_ble_eq_true rfl) rfl dX4_work_69 (fun H locs hP hD hS => ?_)
          refine lv_aload_n hx hb dX4_work_72 rfl (lv_at hl 1 rfl) ?_
          refine lv_iload hx hb dX4_work_73 (lv_at hl 0 rfl) ?_
          refine z_put (ci := 4) (v := .int (iZ r3)) (ty := .int) (C := RX4) (T := TX4) (N := 3) (ws' := (wX4_work cA h_t h_a1 h_a1_dots h_a1_cuts h_a1_skips h_a1_settings h_a1_weights i3 i4 r3 v_a1_wide v_a1_high v_a1_frames f_a1_dots)) hx hb hq in_wsX40 tyX4 tyX4_ok nmX4 hown hK hP hD hS 0 rfl rfl 2 (by decide) (hq _ q293) (fun _ h9 => h9) rfl (by decide +kernel) rfl rfl (Nat.le_of_ble_eq_true rfl) rfl dX4_work_75 (fun H locs hP hD hS => ?_)
          refine z_iinc (lv' := [(4, .int (iZ (i4 + 1))), (5, .int (iZ r3)), (0, .ref h_t), (1, .ref h_a1), (2, .int (iZ x2)), (3, .int (iZ i3))]) hx hb dX4_work_78 hl (k := 5) rfl (by decide) rfl (fun ls hl => ?_)
          refine lv_goto (tgt := 17) hx hb dX4_work_81 (by decide) ?_
          exact hrec i3 (i4 + 1) i3 i4 r3 h H locs hP hD hS ls (lv_sub hl [2, 3, 4, 5, 0] rfl)
theorem wX4_work_L17 (p : Program) (l : Launch) (e : Env) (s : State) (m : MethodId) (args : Array Value) (below : List Frame) (meth : Method) (c : Code) (Q : State → Prop) (G : ZG) (D : va_G) (cA : Nat → ClassId) (A : Nat → Prop) (h_t h_a1 h_a1_dots h_a1_cuts h_a1_skips h_a1_settings h_a1_weights : Nat) (v_a1_wide : Int) (v_a1_high : Int) (v_a1_frames : Int) (f_a1_dots : Nat → Int) (x2 : Int) (N : Nat) (C : CallFix p m c cX4_work 6 s args vX4_work RX4) (hK : va_K D vwCl (zT cA) s) (hA : ∀ q, s.heap.size ≤ q → A q) (hZ : zSt G A s s.heap) (r : Int × Int × Int) (kr : kX4_work p l e s m args below meth c Q G D cA A h_t h_a1 h_a1_dots h_a1_cuts h_a1_skips h_a1_settings h_a1_weights v_a1_wide v_a1_high v_a1_frames f_a1_dots x2 N r) (k : Int → Int → Int → Int → Option (Int × Int × Int)) (hk : ∀ (i3 : Int) (v_t_right : Int) (v_t_down : Int) (v_t_dots : Int), k i3 v_t_right v_t_down v_t_dots = some r → sX4_work_84 p l e s m args below meth c Q G D cA A h_t h_a1 h_a1_dots h_a1_cuts h_a1_skips h_a1_settings h_a1_weights v_a1_wide v_a1_high v_a1_frames f_a1_dots x2 N i3 v_t_right v_t_down v_t_dots) : ∀ (n : Nat) (i3 : Int) (i4 : Int) (v_t_right : Int) (v_t_down : Int) (v_t_dots : Int), fX4_work_L17 N v_a1_wide v_a1_high f_a1_dots x2 k n i3 i4 v_t_right v_t_down v_t_dots = some r → sX4_work_17 p l e s m args below meth c Q G D cA A h_t h_a1 h_a1_dots h_a1_cuts h_a1_skips h_a1_settings h_a1_weights v_a1_wide v_a1_high v_a1_frames f_a1_dots x2 N i3 i4 v_t_right v_t_down v_t_dots := by
  intro n
  induction n with
  | zero =>
    intro i3 i4 v_t_right v_t_down v_t_dots h
    have h : none = some r := h
    cases h
  | succ n ih =>
    intro i3 i4 v_t_right v_t_down v_t_dots h
    exact wX4_work_b17 p l e s m args below meth c Q G D cA A h_t h_a1 h_a1_dots h_a1_cuts h_a1_skips h_a1_settings h_a1_weights v_a1_wide v_a1_high v_a1_frames f_a1_dots x2 N C hK hA hZ r kr (fX4_work_L17 N v_a1_wide v_a1_high f_a1_dots x2 k n) k ih hk i3 i4 v_t_right v_t_down v_t_dots h
set_option maxHeartbeats 4000000 in
set_option maxRecDepth 100000 in
theorem wX4_work_j84 (p : Program) (l : Launch) (e : Env) (s : State) (m : MethodId) (args : Array Value) (below : List Frame) (meth : Method) (c : Code) (Q : State → Prop) (G : ZG) (D : va_G) (cA : Nat → ClassId) (A : Nat → Prop) (h_t h_a1 h_a1_dots h_a1_cuts h_a1_skips h_a1_settings h_a1_weights : Nat) (v_a1_wide : Int) (v_a1_high : Int) (v_a1_frames : Int) (f_a1_dots : Nat → Int) (x2 : Int) (N : Nat) (C : CallFix p m c cX4_work 6 s args vX4_work RX4) (hK : va_K D vwCl (zT cA) s) (hA : ∀ q, s.heap.size ≤ q → A q) (hZ : zSt G A s s.heap) (r : Int × Int × Int) (kr : kX4_work p l e s m args below meth c Q G D cA A h_t h_a1 h_a1_dots h_a1_cuts h_a1_skips h_a1_settings h_a1_weights v_a1_wide v_a1_high v_a1_frames f_a1_dots x2 N r) (rec : Int → Int → Int → Int → Option (Int × Int × Int)) (k : Int → Int → Int → Option (Int × Int × Int)) (hrec : ∀ (i3 : Int) (v_t_right : Int) (v_t_down : Int) (v_t_dots : Int), rec i3 v_t_right v_t_down v_t_dots = some r → sX4_work_8 p l e s m args below meth c Q G D cA A h_t h_a1 h_a1_dots h_a1_cuts h_a1_skips h_a1_settings h_a1_weights v_a1_wide v_a1_high v_a1_frames f_a1_dots x2 N i3 v_t_right v_t_down v_t_dots) (hk : ∀ (v_t_right : Int) (v_t_down : Int) (v_t_dots : Int), k v_t_right v_t_down v_t_dots = some r → sX4_work_90 p l e s m args below meth c Q G D cA A h_t h_a1 h_a1_dots h_a1_cuts h_a1_skips h_a1_settings h_a1_weights v_a1_wide v_a1_high v_a1_frames f_a1_dots x2 N v_t_right v_t_down v_t_dots) (i3 : Int) (v_t_right : Int) (v_t_down : Int) (v_t_dots : Int) (h : fX4_work_j84 N v_a1_wide v_a1_high f_a1_dots x2 rec k i3 v_t_right v_t_down v_t_dots = some r) : sX4_work_84 p l e s m args below meth c Q G D cA A h_t h_a1 h_a1_dots h_a1_cuts h_a1_skips h_a1_settings h_a1_weights v_a1_wide v_a1_high v_a1_frames f_a1_dots x2 N i3 v_t_right v_t_down v_t_dots := by
  obtain ⟨hx, hb, hml, hown, hts⟩ := id C
  have hq : ∀ w ∈ wAll, w.before args s = true := fun w h => hts w (List.mem_cons_of_mem _ h)
  intro H locs hP hD hS ls hl
  unfold fX4_work_j84 at h
  refine z_iinc (lv' := [(3, .int (iZ (i3 + 1))), (0, .ref h_t), (1, .ref h_a1), (2, .int (iZ x2))]) hx hb dX4_work_84 hl (k := 3) rfl (by decide) rfl (fun ls hl => ?_)
  refine lv_goto (tgt := 8) hx hb dX4_work_87 (by decide) ?_
  exact hrec (i3 + 1) v_t_right v_t_down v_t_dots h H locs hP hD hS ls (lv_sub hl [1, 2, 3, 0] rfl)
set_option maxHeartbeats 4000000 in
set_option maxRecDepth 100000 in
theorem wX4_work_b8 (p : Program) (l : Launch) (e : Env) (s : State) (m : MethodId) (args : Array Value) (below : List Frame) (meth : Method) (c : Code) (Q : State → Prop) (G : ZG) (D : va_G) (cA : Nat → ClassId) (A : Nat → Prop) (h_t h_a1 h_a1_dots h_a1_cuts h_a1_skips h_a1_settings h_a1_weights : Nat) (v_a1_wide : Int) (v_a1_high : Int) (v_a1_frames : Int) (f_a1_dots : Nat → Int) (x2 : Int) (N : Nat) (C : CallFix p m c cX4_work 6 s args vX4_work RX4) (hK : va_K D vwCl (zT cA) s) (hA : ∀ q, s.heap.size ≤ q → A q) (hZ : zSt G A s s.heap) (r : Int × Int × Int) (kr : kX4_work p l e s m args below meth c Q G D cA A h_t h_a1 h_a1_dots h_a1_cuts h_a1_skips h_a1_settings h_a1_weights v_a1_wide v_a1_high v_a1_frames f_a1_dots x2 N r) (rec : Int → Int → Int → Int → Option (Int × Int × Int)) (k : Int → Int → Int → Option (Int × Int × Int)) (hrec : ∀ (i3 : Int) (v_t_right : Int) (v_t_down : Int) (v_t_dots : Int), rec i3 v_t_right v_t_down v_t_dots = some r → sX4_work_8 p l e s m args below meth c Q G D cA A h_t h_a1 h_a1_dots h_a1_cuts h_a1_skips h_a1_settings h_a1_weights v_a1_wide v_a1_high v_a1_frames f_a1_dots x2 N i3 v_t_right v_t_down v_t_dots) (hk : ∀ (v_t_right : Int) (v_t_down : Int) (v_t_dots : Int), k v_t_right v_t_down v_t_dots = some r → sX4_work_90 p l e s m args below meth c Q G D cA A h_t h_a1 h_a1_dots h_a1_cuts h_a1_skips h_a1_settings h_a1_weights v_a1_wide v_a1_high v_a1_frames f_a1_dots x2 N v_t_right v_t_down v_t_dots) (i3 : Int) (v_t_right : Int) (v_t_down : Int) (v_t_dots : Int) (h : fX4_work_b8 N v_a1_wide v_a1_high f_a1_dots x2 rec k i3 v_t_right v_t_down v_t_dots = some r) : sX4_work_8 p l e s m args below meth c Q G D cA A h_t h_a1 h_a1_dots h_a1_cuts h_a1_skips h_a1_settings h_a1_weights v_a1_wide v_a1_high v_a1_frames f_a1_dots x2 N i3 v_t_right v_t_down v_t_dots := by
  obtain ⟨hx, hb, hml, hown, hts⟩ := id C
  have hq : ∀ w ∈ wAll, w.before args s = true := fun w h => hts w (List.mem_cons_of_mem _ h)
  intro H locs hP hD hS ls hl
  unfold fX4_work_b8 at h
  refine lv_iload_n hx hb dX4_work_8 rfl (lv_at hl 3 rfl) ?_
  refine z_iconst hx hb dX4_work_9 ?_
  refine z_icmp_gt (tgt := 90) hx hb dX4_work_10 (by decide) (fun c1 => ?_) (fun c1 => ?_)
  · rw [if_pos c1] at h
    exact hk v_t_right v_t_down v_t_dots h H locs hP hD hS ls (lv_sub hl [] rfl)
  · rw [if_neg c1] at h
    refine z_bipush hx hb dX4_work_13 (by decide) ?_
    refine lv_istore (lv' := [(4, .int (iZ ((-2)))), (0, .ref h_t), (1, .ref h_a1), (2, .int (iZ x2)), (3, .int (iZ i3))]) hx hb dX4_work_15 hl (by decide) rfl (fun ls hl => ?_)
    exact wX4_work_L17 p l e s m args below meth c Q G D cA A h_t h_a1 h_a1_dots h_a1_cuts h_a1_skips h_a1_settings h_a1_weights v_a1_wide v_a1_high v_a1_frames f_a1_dots x2 N C hK hA hZ r kr (fX4_work_j84 N v_a1_wide v_a1_high f_a1_dots x2 rec k) (fun y0 y1 y2 y3 h9 => wX4_work_j84 p l e s m args below meth c Q G D cA A h_t h_a1 h_a1_dots h_a1_cuts h_a1_skips h_a1_settings h_a1_weights v_a1_wide v_a1_high v_a1_frames f_a1_dots x2 N C hK hA hZ r kr rec k hrec hk y0 y1 y2 y3 h9) N i3 ((-2)) v_t_right v_t_down v_t_dots h H locs hP hD hS ls (lv_sub hl [1, 2, 3, 4, 0] rfl)
theorem wX4_work_L8 (p : Program) (l : Launch) (e : Env) (s : State) (m : MethodId) (args : Array Value) (below : List Frame) (meth : Method) (c : Code) (Q : State → Prop) (G : ZG) (D : va_G) (cA : Nat → ClassId) (A : Nat → Prop) (h_t h_a1 h_a1_dots h_a1_cuts h_a1_skips h_a1_settings h_a1_weights : Nat) (v_a1_wide : Int) (v_a1_high : Int) (v_a1_frames : Int) (f_a1_dots : Nat → Int) (x2 : Int) (N : Nat) (C : CallFix p m c cX4_work 6 s args vX4_work RX4) (hK : va_K D vwCl (zT cA) s) (hA : ∀ q, s.heap.size ≤ q → A q) (hZ : zSt G A s s.heap) (r : Int × Int × Int) (kr : kX4_work p l e s m args below meth c Q G D cA A h_t h_a1 h_a1_dots h_a1_cuts h_a1_skips h_a1_settings h_a1_weights v_a1_wide v_a1_high v_a1_frames f_a1_dots x2 N r) (k : Int → Int → Int → Option (Int × Int × Int)) (hk : ∀ (v_t_right : Int) (v_t_down : Int) (v_t_dots : Int), k v_t_right v_t_down v_t_dots = some r → sX4_work_90 p l e s m args below meth c Q G D cA A h_t h_a1 h_a1_dots h_a1_cuts h_a1_skips h_a1_settings h_a1_weights v_a1_wide v_a1_high v_a1_frames f_a1_dots x2 N v_t_right v_t_down v_t_dots) : ∀ (n : Nat) (i3 : Int) (v_t_right : Int) (v_t_down : Int) (v_t_dots : Int), fX4_work_L8 N v_a1_wide v_a1_high f_a1_dots x2 k n i3 v_t_right v_t_down v_t_dots = some r → sX4_work_8 p l e s m args below meth c Q G D cA A h_t h_a1 h_a1_dots h_a1_cuts h_a1_skips h_a1_settings h_a1_weights v_a1_wide v_a1_high v_a1_frames f_a1_dots x2 N i3 v_t_right v_t_down v_t_dots := by
  intro n
  induction n with
  | zero =>
    intro i3 v_t_right v_t_down v_t_dots h
    have h : none = some r := h
    cases h
  | succ n ih =>
    intro i3 v_t_right v_t_down v_t_dots h
    exact wX4_work_b8 p l e s m args below meth c Q G D cA A h_t h_a1 h_a1_dots h_a1_cuts h_a1_skips h_a1_settings h_a1_weights v_a1_wide v_a1_high v_a1_frames f_a1_dots x2 N C hK hA hZ r kr (fX4_work_L8 N v_a1_wide v_a1_high f_a1_dots x2 k n) k ih hk i3 v_t_right v_t_down v_t_dots h
set_option maxHeartbeats 4000000 in
set_option maxRecDepth 100000 in
theorem wX4_work_j90 (p : Program) (l : Launch) (e : Env) (s : State) (m : MethodId) (args : Array Value) (below : List Frame) (meth : Method) (c : Code) (Q : State → Prop) (G : ZG) (D : va_G) (cA : Nat → ClassId) (A : Nat → Prop) (h_t h_a1 h_a1_dots h_a1_cuts h_a1_skips h_a1_settings h_a1_weights : Nat) (v_a1_wide : Int) (v_a1_high : Int) (v_a1_frames : Int) (f_a1_dots : Nat → Int) (x2 : Int) (N : Nat) (C : CallFix p m c cX4_work 6 s args vX4_work RX4) (hK : va_K D vwCl (zT cA) s) (hA : ∀ q, s.heap.size ≤ q → A q) (hZ : zSt G A s s.heap) (r : Int × Int × Int) (kr : kX4_work p l e s m args below meth c Q G D cA A h_t h_a1 h_a1_dots h_a1_cuts h_a1_skips h_a1_settings h_a1_weights v_a1_wide v_a1_high v_a1_frames f_a1_dots x2 N r) (v_t_right : Int) (v_t_down : Int) (v_t_dots : Int) (h : fX4_work_j90 N v_a1_wide v_a1_high f_a1_dots x2 v_t_right v_t_down v_t_dots = some r) : sX4_work_90 p l e s m args below meth c Q G D cA A h_t h_a1 h_a1_dots h_a1_cuts h_a1_skips h_a1_settings h_a1_weights v_a1_wide v_a1_high v_a1_frames f_a1_dots x2 N v_t_right v_t_down v_t_dots := by
  obtain ⟨hx, hb, hml, hown, hts⟩ := id C
  have hq : ∀ w ∈ wAll, w.before args s = true := fun w h => hts w (List.mem_cons_of_mem _ h)
  intro H locs hP hD hS ls hl
  unfold fX4_work_j90 at h
  cases h
  exact kr _ _ _ _ dX4_work_90 hP hD hS
set_option maxHeartbeats 4000000 in
set_option maxRecDepth 100000 in
theorem wX4_work_E (p : Program) (l : Launch) (e : Env) (s : State) (m : MethodId) (args : Array Value) (below : List Frame) (meth : Method) (c : Code) (Q : State → Prop) (G : ZG) (D : va_G) (cA : Nat → ClassId) (A : Nat → Prop) (h_t h_a1 h_a1_dots h_a1_cuts h_a1_skips h_a1_settings h_a1_weights : Nat) (v_a1_wide : Int) (v_a1_high : Int) (v_a1_frames : Int) (f_a1_dots : Nat → Int) (x2 : Int) (N : Nat) (C : CallFix p m c cX4_work 6 s args vX4_work RX4) (hK : va_K D vwCl (zT cA) s) (hA : ∀ q, s.heap.size ≤ q → A q) (hZ : zSt G A s s.heap) (r : Int × Int × Int) (kr : kX4_work p l e s m args below meth c Q G D cA A h_t h_a1 h_a1_dots h_a1_cuts h_a1_skips h_a1_settings h_a1_weights v_a1_wide v_a1_high v_a1_frames f_a1_dots x2 N r) (v_t_right : Int) (v_t_down : Int) (v_t_dots : Int) (h : fX4_work N v_a1_wide v_a1_high f_a1_dots v_t_right v_t_down v_t_dots x2 = some r) (H : Heap) (locs : List Loc) (hP : va_P D vwCl (wX4_work cA h_t h_a1 h_a1_dots h_a1_cuts h_a1_skips h_a1_settings h_a1_weights v_t_right v_t_down v_t_dots v_a1_wide v_a1_high v_a1_frames f_a1_dots) H) (hD : va_D A (wX4_work cA h_t h_a1 h_a1_dots h_a1_cuts h_a1_skips h_a1_settings h_a1_weights v_t_right v_t_down v_t_dots v_a1_wide v_a1_high v_a1_frames f_a1_dots)) (hS : va_S A s.heap H locs) (ls : Array Slot) (hl : lv_has ls 6 [(0, .ref h_t), (1, .ref h_a1), (2, .int (iZ x2))]) : W p l e rmX4_work s m args below meth c H locs 0 0 Q (F0 m 0 ls []) := by
  obtain ⟨hx, hb, hml, hown, hts⟩ := id C
  have hq : ∀ w ∈ wAll, w.before args s = true := fun w h => hts w (List.mem_cons_of_mem _ h)
  unfold fX4_work at h
  refine lv_aload_n hx hb dX4_work_0 rfl (lv_at hl 0 rfl) ?_
  refine z_iconst hx hb dX4_work_1 ?_
  refine z_put (ci := 4) (v := .int (iZ ((-1)))) (ty := .int) (C := RX4) (T := TX4) (N := 3) (ws' := (wX4_work cA h_t h_a1 h_a1_dots h_a1_cuts h_a1_skips h_a1_settings h_a1_weights v_t_right v_t_down ((-1)) v_a1_wide v_a1_high v_a1_frames f_a1_dots)) hx hb hq in_wsX40 tyX4 tyX4_ok nmX4 hown hK hP hD hS 0 rfl rfl 2 (by decide) (hq _ q293) (fun _ h9 => h9) rfl (by decide +kernel) rfl rfl (Nat.le_of_ble_eq_true rfl) rfl dX4_work_2 (fun H locs hP hD hS => ?_)
  refine z_bipush hx hb dX4_work_5 (by decide) ?_
  refine lv_istore_n (lv' := [(3, .int (iZ ((-2)))), (0, .ref h_t), (1, .ref h_a1), (2, .int (iZ x2))]) hx hb dX4_work_7 rfl hl (by decide) rfl (fun ls hl => ?_)
  exact wX4_work_L8 p l e s m args below meth c Q G D cA A h_t h_a1 h_a1_dots h_a1_cuts h_a1_skips h_a1_settings h_a1_weights v_a1_wide v_a1_high v_a1_frames f_a1_dots x2 N C hK hA hZ r kr (fX4_work_j90 N v_a1_wide v_a1_high f_a1_dots x2) (fun y0 y1 y2 h9 => wX4_work_j90 p l e s m args below meth c Q G D cA A h_t h_a1 h_a1_dots h_a1_cuts h_a1_skips h_a1_settings h_a1_weights v_a1_wide v_a1_high v_a1_frames f_a1_dots x2 N C hK hA hZ r kr y0 y1 y2 h9) N ((-2)) v_t_right v_t_down ((-1)) h H locs hP hD hS ls (lv_sub hl [1, 2, 3, 0] rfl)
set_option maxHeartbeats 4000000 in
set_option maxRecDepth 100000 in
theorem cX4_work_m (l : Launch) (G : ZG) (D : va_G) (cA : Nat → ClassId) (h_t h_a1 h_a1_dots h_a1_cuts h_a1_skips h_a1_settings h_a1_weights : Nat) (v_t_right : Int) (v_t_down : Int) (v_t_dots : Int) (v_a1_wide : Int) (v_a1_high : Int) (v_a1_frames : Int) (f_a1_dots : Nat → Int) (x2 : Int) (sz N : Nat) {r : Int × Int × Int} (hF : fX4_work N v_a1_wide v_a1_high f_a1_dots v_t_right v_t_down v_t_dots x2 = some r) : zMv l yX4_work vX4_work rmX4_work G D cA [.ref h_t, .ref h_a1, .int (iZ x2)] (wX4_work cA h_t h_a1 h_a1_dots h_a1_cuts h_a1_skips h_a1_settings h_a1_weights v_t_right v_t_down v_t_dots v_a1_wide v_a1_high v_a1_frames f_a1_dots) (wX4_work cA h_t h_a1 h_a1_dots h_a1_cuts h_a1_skips h_a1_settings h_a1_weights r.1 r.2.1 r.2.2 v_a1_wide v_a1_high v_a1_frames f_a1_dots) sz := by
  refine Met.ofW (cc := cX4_work) (maxL := 6) (ret := none) (by decide) rfl ?_
  intro p e s m args below meth c s₁ B hml hv
  obtain ⟨rfl, hsz, hP, hK, hD0, hZ⟩ := hv
  subst hsz
  have hlocks := B.notSynchronized
  have hl := lv_entry ([.ref h_t, .ref h_a1, .int (iZ x2)]) (n := 6) (Nat.le_of_ble_eq_true rfl)
  rw [lg_entry_eq]
  generalize (lg_sl ([.ref h_t, .ref h_a1, .int (iZ x2)]) ++ List.replicate (6 - (lg_sl ([.ref h_t, .ref h_a1, .int (iZ x2)])).length) Slot.unset).toArray = ls at hl ⊢
  exact wX4_work_E p l e s m _ below meth c _ G D cA _ h_t h_a1 h_a1_dots h_a1_cuts h_a1_skips h_a1_settings h_a1_weights v_a1_wide v_a1_high v_a1_frames f_a1_dots x2 N ⟨B.exec, B.bytes, hml, findClass_of_methodNamed B.named, atoms_spec (ws := vX4_work) B.pre⟩ hK (fun q h => Or.inr h) hZ r (fun pc H locs ls hd hP hD hS => W.vret B.exec B.bytes B.returns (fun t ht hW => ⟨⟨(), rfl, trivial, by rw [ht]; exact hP, va_K.moved hW.alike hK, hD⟩, hS.F ht⟩) hS.2.2 hd) v_t_right v_t_down v_t_dots hF s.heap [] hP (hD0.self (sz := s.heap.size)) va_S.rf ls hl

/-! ===== FlickerDesk$Parting.measureGaps(LFlickerDesk$Tally;)V ===== -/
abbrev rmX5_measureGaps : Room := { frames := 1, cells := 0, slots := 0, locals := 25 }
abbrev wX5_measureGaps (cA : Nat → ClassId) (h_t h_a1 h_a1_cums h_t_gaps h_t_sums h_t_costs h_t_leasts : Nat) (v_t_ready : Int) (v_t_frames : Int) (f_a1_cums : Nat → Int) (f_t_gaps : Nat → Int) : va_W := [(h_t, .inr (5, [.int (iZ v_t_ready), .int (iZ v_t_frames), .ref h_t_sums, .ref h_t_gaps, .ref h_t_costs, .ref h_t_leasts])), (h_a1, .inr (9, [.ref h_a1_cums])), (h_a1_cums, zA (cA 0) 384 f_a1_cums), (h_t_gaps, zA (cA 0) 576 f_t_gaps)]
def fX5_measureGaps_b14 (N : Nat) (v_t_frames : Int) (f_a1_cums : Nat → Int) (rec : Int → Int → (Nat → Int) → Option ((Nat → Int))) (k : Int → (Nat → Int) → Option ((Nat → Int))) (i2 : Int) (i3 : Int) (f_t_gaps : Nat → Int) : Option ((Nat → Int)) := (if iZ i3 < iZ v_t_frames then ((fX9_gap N f_a1_cums i2 i3).bind fun r3 => (gd ((0 : Int) ≤ (i2 * 24) + i3 ∧ (i2 * 24) + i3 < 576) (rec i2 (i3 + 1) (uZ f_t_gaps ((i2 * 24) + i3).toNat r3)))) else (k i2 f_t_gaps))
def fX5_measureGaps_L14 (N : Nat) (v_t_frames : Int) (f_a1_cums : Nat → Int) (k : Int → (Nat → Int) → Option ((Nat → Int))) : Nat → Int → Int → (Nat → Int) → Option ((Nat → Int))
  | 0 => fun _ _ _ => none
  | n + 1 => fX5_measureGaps_b14 N v_t_frames f_a1_cums (fX5_measureGaps_L14 N v_t_frames f_a1_cums k n) k
def fX5_measureGaps_j45 (N : Nat) (v_t_frames : Int) (f_a1_cums : Nat → Int) (rec : Int → (Nat → Int) → Option ((Nat → Int))) (k : (Nat → Int) → Option ((Nat → Int))) (i2 : Int) (f_t_gaps : Nat → Int) : Option ((Nat → Int)) := (rec (i2 + 1) f_t_gaps)
def fX5_measureGaps_b2 (N : Nat) (v_t_frames : Int) (f_a1_cums : Nat → Int) (rec : Int → (Nat → Int) → Option ((Nat → Int))) (k : (Nat → Int) → Option ((Nat → Int))) (i2 : Int) (f_t_gaps : Nat → Int) : Option ((Nat → Int)) := (if iZ i2 < iZ v_t_frames then (fX5_measureGaps_L14 N v_t_frames f_a1_cums (fX5_measureGaps_j45 N v_t_frames f_a1_cums rec k) N i2 (i2 + 1) f_t_gaps) else (k f_t_gaps))
def fX5_measureGaps_L2 (N : Nat) (v_t_frames : Int) (f_a1_cums : Nat → Int) (k : (Nat → Int) → Option ((Nat → Int))) : Nat → Int → (Nat → Int) → Option ((Nat → Int))
  | 0 => fun _ _ => none
  | n + 1 => fX5_measureGaps_b2 N v_t_frames f_a1_cums (fX5_measureGaps_L2 N v_t_frames f_a1_cums k n) k
def fX5_measureGaps_j51 (N : Nat) (v_t_frames : Int) (f_a1_cums : Nat → Int) (f_t_gaps : Nat → Int) : Option ((Nat → Int)) := (some f_t_gaps)
def fX5_measureGaps (N : Nat) (v_t_frames : Int) (f_a1_cums : Nat → Int) (f_t_gaps : Nat → Int) : Option ((Nat → Int)) := (fX5_measureGaps_L2 N v_t_frames f_a1_cums (fX5_measureGaps_j51 N v_t_frames f_a1_cums) N 0 f_t_gaps)
abbrev kX5_measureGaps (p : Program) (l : Launch) (e : Env) (s : State) (m : MethodId) (args : Array Value) (below : List Frame) (meth : Method) (c : Code) (Q : State → Prop) (G : ZG) (D : va_G) (cA : Nat → ClassId) (A : Nat → Prop) (h_t h_a1 h_a1_cums h_t_gaps h_t_sums h_t_costs h_t_leasts : Nat) (v_t_ready : Int) (v_t_frames : Int) (f_a1_cums : Nat → Int) (N : Nat) (r : (Nat → Int)) : Prop := ∀ (pc : Nat) (H : Heap) (locs : List Loc) (ls : Array Slot), decode cX5_measureGaps pc = .ok (.return_, 1) → va_P D vwCl (wX5_measureGaps cA h_t h_a1 h_a1_cums h_t_gaps h_t_sums h_t_costs h_t_leasts v_t_ready v_t_frames f_a1_cums r) H → va_D A (wX5_measureGaps cA h_t h_a1 h_a1_cums h_t_gaps h_t_sums h_t_costs h_t_leasts v_t_ready v_t_frames f_a1_cums r) → va_S A s.heap H locs → W p l e rmX5_measureGaps s m args below meth c H locs 0 0 Q (F0 m pc ls [])
abbrev sX5_measureGaps_45 (p : Program) (l : Launch) (e : Env) (s : State) (m : MethodId) (args : Array Value) (below : List Frame) (meth : Method) (c : Code) (Q : State → Prop) (G : ZG) (D : va_G) (cA : Nat → ClassId) (A : Nat → Prop) (h_t h_a1 h_a1_cums h_t_gaps h_t_sums h_t_costs h_t_leasts : Nat) (v_t_ready : Int) (v_t_frames : Int) (f_a1_cums : Nat → Int) (N : Nat) (i2 : Int) (f_t_gaps : Nat → Int) : Prop := ∀ (H : Heap) (locs : List Loc), va_P D vwCl (wX5_measureGaps cA h_t h_a1 h_a1_cums h_t_gaps h_t_sums h_t_costs h_t_leasts v_t_ready v_t_frames f_a1_cums f_t_gaps) H → va_D A (wX5_measureGaps cA h_t h_a1 h_a1_cums h_t_gaps h_t_sums h_t_costs h_t_leasts v_t_ready v_t_frames f_a1_cums f_t_gaps) → va_S A s.heap H locs → ∀ ls : Array Slot, lv_has ls 4 [(0, .ref h_t), (1, .ref h_a1), (2, .int (iZ i2))] → W p l e rmX5_measureGaps s m args below meth c H locs 0 0 Q (F0 m 45 ls [])
abbrev sX5_measureGaps_14 (p : Program) (l : Launch) (e : Env) (s : State) (m : MethodId) (args : Array Value) (below : List Frame) (meth : Method) (c : Code) (Q : State → Prop) (G : ZG) (D : va_G) (cA : Nat → ClassId) (A : Nat → Prop) (h_t h_a1 h_a1_cums h_t_gaps h_t_sums h_t_costs h_t_leasts : Nat) (v_t_ready : Int) (v_t_frames : Int) (f_a1_cums : Nat → Int) (N : Nat) (i2 : Int) (i3 : Int) (f_t_gaps : Nat → Int) : Prop := ∀ (H : Heap) (locs : List Loc), va_P D vwCl (wX5_measureGaps cA h_t h_a1 h_a1_cums h_t_gaps h_t_sums h_t_costs h_t_leasts v_t_ready v_t_frames f_a1_cums f_t_gaps) H → va_D A (wX5_measureGaps cA h_t h_a1 h_a1_cums h_t_gaps h_t_sums h_t_costs h_t_leasts v_t_ready v_t_frames f_a1_cums f_t_gaps) → va_S A s.heap H locs → ∀ ls : Array Slot, lv_has ls 4 [(0, .ref h_t), (1, .ref h_a1), (2, .int (iZ i2)), (3, .int (iZ i3))] → W p l e rmX5_measureGaps s m args below meth c H locs 0 0 Q (F0 m 14 ls [])
abbrev sX5_measureGaps_51 (p : Program) (l : Launch) (e : Env) (s : State) (m : MethodId) (args : Array Value) (below : List Frame) (meth : Method) (c : Code) (Q : State → Prop) (G : ZG) (D : va_G) (cA : Nat → ClassId) (A : Nat → Prop) (h_t h_a1 h_a1_cums h_t_gaps h_t_sums h_t_costs h_t_leasts : Nat) (v_t_ready : Int) (v_t_frames : Int) (f_a1_cums : Nat → Int) (N : Nat) (f_t_gaps : Nat → Int) : Prop := ∀ (H : Heap) (locs : List Loc), va_P D vwCl (wX5_measureGaps cA h_t h_a1 h_a1_cums h_t_gaps h_t_sums h_t_costs h_t_leasts v_t_ready v_t_frames f_a1_cums f_t_gaps) H → va_D A (wX5_measureGaps cA h_t h_a1 h_a1_cums h_t_gaps h_t_sums h_t_costs h_t_leasts v_t_ready v_t_frames f_a1_cums f_t_gaps) → va_S A s.heap H locs → ∀ ls : Array Slot, lv_has ls 4 [] → W p l e rmX5_measureGaps s m args below meth c H locs 0 0 Q (F0 m 51 ls [])
abbrev sX5_measureGaps_2 (p : Program) (l : Launch) (e : Env) (s : State) (m : MethodId) (args : Array Value) (below : List Frame) (meth : Method) (c : Code) (Q : State → Prop) (G : ZG) (D : va_G) (cA : Nat → ClassId) (A : Nat → Prop) (h_t h_a1 h_a1_cums h_t_gaps h_t_sums h_t_costs h_t_leasts : Nat) (v_t_ready : Int) (v_t_frames : Int) (f_a1_cums : Nat → Int) (N : Nat) (i2 : Int) (f_t_gaps : Nat → Int) : Prop := ∀ (H : Heap) (locs : List Loc), va_P D vwCl (wX5_measureGaps cA h_t h_a1 h_a1_cums h_t_gaps h_t_sums h_t_costs h_t_leasts v_t_ready v_t_frames f_a1_cums f_t_gaps) H → va_D A (wX5_measureGaps cA h_t h_a1 h_a1_cums h_t_gaps h_t_sums h_t_costs h_t_leasts v_t_ready v_t_frames f_a1_cums f_t_gaps) → va_S A s.heap H locs → ∀ ls : Array Slot, lv_has ls 4 [(0, .ref h_t), (1, .ref h_a1), (2, .int (iZ i2))] → W p l e rmX5_measureGaps s m args below meth c H locs 0 0 Q (F0 m 2 ls [])
set_option maxHeartbeats 4000000 in
set_option maxRecDepth 100000 in
theorem wX5_measureGaps_b14 (p : Program) (l : Launch) (e : Env) (s : State) (m : MethodId) (args : Array Value) (below : List Frame) (meth : Method) (c : Code) (Q : State → Prop) (G : ZG) (D : va_G) (cA : Nat → ClassId) (A : Nat → Prop) (h_t h_a1 h_a1_cums h_t_gaps h_t_sums h_t_costs h_t_leasts : Nat) (v_t_ready : Int) (v_t_frames : Int) (f_a1_cums : Nat → Int) (N : Nat) (C : CallFix p m c cX5_measureGaps 4 s args vX5_measureGaps RX5) (hK : va_K D vwCl (zT cA) s) (hA : ∀ q, s.heap.size ≤ q → A q) (hZ : zSt G A s s.heap) (r : (Nat → Int)) (kr : kX5_measureGaps p l e s m args below meth c Q G D cA A h_t h_a1 h_a1_cums h_t_gaps h_t_sums h_t_costs h_t_leasts v_t_ready v_t_frames f_a1_cums N r) (rec : Int → Int → (Nat → Int) → Option ((Nat → Int))) (k : Int → (Nat → Int) → Option ((Nat → Int))) (hrec : ∀ (i2 : Int) (i3 : Int) (f_t_gaps : Nat → Int), rec i2 i3 f_t_gaps = some r → sX5_measureGaps_14 p l e s m args below meth c Q G D cA A h_t h_a1 h_a1_cums h_t_gaps h_t_sums h_t_costs h_t_leasts v_t_ready v_t_frames f_a1_cums N i2 i3 f_t_gaps) (hk : ∀ (i2 : Int) (f_t_gaps : Nat → Int), k i2 f_t_gaps = some r → sX5_measureGaps_45 p l e s m args below meth c Q G D cA A h_t h_a1 h_a1_cums h_t_gaps h_t_sums h_t_costs h_t_leasts v_t_ready v_t_frames f_a1_cums N i2 f_t_gaps) (i2 : Int) (i3 : Int) (f_t_gaps : Nat → Int) (h : fX5_measureGaps_b14 N v_t_frames f_a1_cums rec k i2 i3 f_t_gaps = some r) : sX5_measureGaps_14 p l e s m args below meth c Q G D cA A h_t h_a1 h_a1_cums h_t_gaps h_t_sums h_t_costs h_t_leasts v_t_ready v_t_frames f_a1_cums N i2 i3 f_t_gaps := by
  obtain ⟨hx, hb, hml, hown, hts⟩ := id C
  have hq : ∀ w ∈ wAll, w.before args s = true := fun w h => hts w (List.mem_cons_of_mem _ h)
  intro H locs hP hD hS ls hl
  unfold fX5_measureGaps_b14 at h
  refine lv_iload_n hx hb dX5_measureGaps_14 rfl (lv_at hl 3 rfl) ?_
  refine lv_aload_n hx hb dX5_measureGaps_15 rfl (lv_at hl 0 rfl) ?_
  refine va_get (D := D) (ci := 5) (v := .int (iZ v_t_frames)) (C := RX5) (T := TX5) (N := 6) hx hb hq in_wsX50 hown hK hP 0 rfl rfl 1 (by decide) (hq _ q307) (fun _ h9 => h9) rfl dX5_measureGaps_16 ?_
  refine z_icmp_ge (tgt := 45) hx hb dX5_measureGaps_19 (by decide) (fun c2 => ?_) (fun c2 => ?_)
  · rw [if_neg c2] at h
    exact hk i2 f_t_gaps h H locs hP hD hS ls (lv_sub hl [0, 1, 2] rfl)
  · rw [if_pos c2] at h
    refine lv_aload_n hx hb dX5_measureGaps_22 rfl (lv_at hl 0 rfl) ?_
    refine va_get (D := D) (ci := 5) (v := .ref h_t_gaps) (C := RX5) (T := TX5) (N := 6) hx hb hq in_wsX50 hown hK hP 0 rfl rfl 3 (by decide) (hq _ q303) (fun _ h9 => h9) rfl dX5_measureGaps_23 ?_
    refine lv_iload_n hx hb dX5_measureGaps_26 rfl (lv_at hl 2 rfl) ?_
    refine z_bipush hx hb dX5_measureGaps_27 (by decide) ?_
    refine z_imul hx hb dX5_measureGaps_29 ?_
    refine lv_iload_n hx hb dX5_measureGaps_30 rfl (lv_at hl 3 rfl) ?_
    refine z_iadd hx hb dX5_measureGaps_31 ?_
    refine lv_aload_n hx hb dX5_measureGaps_32 rfl (lv_at hl 1 rfl) ?_
    refine lv_iload_n hx hb dX5_measureGaps_33 rfl (lv_at hl 2 rfl) ?_
    refine lv_iload_n hx hb dX5_measureGaps_34 rfl (lv_at hl 3 rfl) ?_
    obtain ⟨r3, e3, h⟩ := bd_some h
    refine z_callVi (G := G) (D := D) (cA := cA) (wc := (wX9_gap cA h_a1 h_a1_cums f_a1_cums)) (wr := [(h_t, .inr (5, [.int (iZ v_t_ready), .int (iZ v_t_frames), .ref h_t_sums, .ref h_t_gaps, .ref h_t_costs, .ref h_t_leasts])), (h_t_gaps, zA (cA 0) 576 f_t_gaps)]) (w1 := (wX9_gap cA h_a1 h_a1_cums f_a1_cums)) (ws' := (wX5_measureGaps cA h_t h_a1 h_a1_cums h_t_gaps h_t_sums h_t_costs h_t_leasts v_t_ready v_t_frames f_a1_cums f_t_gaps)) (r := r3) (As := [.int (iZ i2), .int (iZ i3)]) C hK hA hZ hP hD hS [1, 2] [0, 3] [0, 2, 3, 1] rfl rfl rfl (by decide) (cX9_gap_m l G D cA h_a1 h_a1_cums f_a1_cums i2 i3 H.size N e3) (cwV 2 hts (gAllV q308 q96 q97 q66 q91) rfl rfl rfl (by decide +kernel) ⟨Nat.le_of_ble_eq_true rfl, Nat.le_of_ble_eq_true rfl⟩) 1 9 rfl rfl rfl rfl hl.1 rfl (Nat.le_of_ble_eq_true rfl) ⟨Nat.zero_le _, Nat.zero_le _⟩ dX5_measureGaps_35 (fun H locs hP hD hS => ?_)
    obtain ⟨g4, h⟩ := gd_some h
    refine z_iast (ws' := (wX5_measureGaps cA h_t h_a1 h_a1_cums h_t_gaps h_t_sums h_t_costs h_t_leasts v_t_ready v_t_frames f_a1_cums (uZ f_t_gaps ((i2 * 24) + i3).toNat r3))) hx hb hK hP hD hS 3 0 rfl rfl (Nat.le_of_ble_eq_true rfl) g4 rfl dX5_measureGaps_38 (fun H locs hP hD hS => ?_)
    refine z_iinc (lv' := [(3, .int (iZ (i3 + 1))), (0, .ref h_t), (1, .ref h_a1), (2, .int (iZ i2))]) hx hb dX5_measureGaps_39 hl (k := 3) rfl (by decide) rfl (fun ls hl => ?_)
    refine lv_goto (tgt := 14) hx hb dX5_measureGaps_42 (by decide) ?_
    exact hrec i2 (i3 + 1) (uZ f_t_gaps ((i2 * 24) + i3).toNat r3) h H locs hP hD hS ls (lv_sub hl [1, 2, 3, 0] rfl)
theorem wX5_measureGaps_L14 (p : Program) (l : Launch) (e : Env) (s : State) (m : MethodId) (args : Array Value) (below : List Frame) (meth : Method) (c : Code) (Q : State → Prop) (G : ZG) (D : va_G) (cA : Nat → ClassId) (A : Nat → Prop) (h_t h_a1 h_a1_cums h_t_gaps h_t_sums h_t_costs h_t_leasts : Nat) (v_t_ready : Int) (v_t_frames : Int) (f_a1_cums : Nat → Int) (N : Nat) (C : CallFix p m c cX5_measureGaps 4 s args vX5_measureGaps RX5) (hK : va_K D vwCl (zT cA) s) (hA : ∀ q, s.heap.size ≤ q → A q) (hZ : zSt G A s s.heap) (r : (Nat → Int)) (kr : kX5_measureGaps p l e s m args below meth c Q G D cA A h_t h_a1 h_a1_cums h_t_gaps h_t_sums h_t_costs h_t_leasts v_t_ready v_t_frames f_a1_cums N r) (k : Int → (Nat → Int) → Option ((Nat → Int))) (hk : ∀ (i2 : Int) (f_t_gaps : Nat → Int), k i2 f_t_gaps = some r → sX5_measureGaps_45 p l e s m args below meth c Q G D cA A h_t h_a1 h_a1_cums h_t_gaps h_t_sums h_t_costs h_t_leasts v_t_ready v_t_frames f_a1_cums N i2 f_t_gaps) : ∀ (n : Nat) (i2 : Int) (i3 : Int) (f_t_gaps : Nat → Int), fX5_measureGaps_L14 N v_t_frames f_a1_cums k n i2 i3 f_t_gaps = some r → sX5_measureGaps_14 p l e s m args below meth c Q G D cA A h_t h_a1 h_a1_cums h_t_gaps h_t_sums h_t_costs h_t_leasts v_t_ready v_t_frames f_a1_cums N i2 i3 f_t_gaps := by
  intro n
  induction n with
  | zero =>
    intro i2 i3 f_t_gaps h
    have h : none = some r := h
    cases h
  | succ n ih =>
    intro i2 i3 f_t_gaps h
    exact wX5_measureGaps_b14 p l e s m args below meth c Q G D cA A h_t h_a1 h_a1_cums h_t_gaps h_t_sums h_t_costs h_t_leasts v_t_ready v_t_frames f_a1_cums N C hK hA hZ r kr (fX5_measureGaps_L14 N v_t_frames f_a1_cums k n) k ih hk i2 i3 f_t_gaps h
set_option maxHeartbeats 4000000 in
set_option maxRecDepth 100000 in
theorem wX5_measureGaps_j45 (p : Program) (l : Launch) (e : Env) (s : State) (m : MethodId) (args : Array Value) (below : List Frame) (meth : Method) (c : Code) (Q : State → Prop) (G : ZG) (D : va_G) (cA : Nat → ClassId) (A : Nat → Prop) (h_t h_a1 h_a1_cums h_t_gaps h_t_sums h_t_costs h_t_leasts : Nat) (v_t_ready : Int) (v_t_frames : Int) (f_a1_cums : Nat → Int) (N : Nat) (C : CallFix p m c cX5_measureGaps 4 s args vX5_measureGaps RX5) (hK : va_K D vwCl (zT cA) s) (hA : ∀ q, s.heap.size ≤ q → A q) (hZ : zSt G A s s.heap) (r : (Nat → Int)) (kr : kX5_measureGaps p l e s m args below meth c Q G D cA A h_t h_a1 h_a1_cums h_t_gaps h_t_sums h_t_costs h_t_leasts v_t_ready v_t_frames f_a1_cums N r) (rec : Int → (Nat → Int) → Option ((Nat → Int))) (k : (Nat → Int) → Option ((Nat → Int))) (hrec : ∀ (i2 : Int) (f_t_gaps : Nat → Int), rec i2 f_t_gaps = some r → sX5_measureGaps_2 p l e s m args below meth c Q G D cA A h_t h_a1 h_a1_cums h_t_gaps h_t_sums h_t_costs h_t_leasts v_t_ready v_t_frames f_a1_cums N i2 f_t_gaps) (hk : ∀ (f_t_gaps : Nat → Int), k f_t_gaps = some r → sX5_measureGaps_51 p l e s m args below meth c Q G D cA A h_t h_a1 h_a1_cums h_t_gaps h_t_sums h_t_costs h_t_leasts v_t_ready v_t_frames f_a1_cums N f_t_gaps) (i2 : Int) (f_t_gaps : Nat → Int) (h : fX5_measureGaps_j45 N v_t_frames f_a1_cums rec k i2 f_t_gaps = some r) : sX5_measureGaps_45 p l e s m args below meth c Q G D cA A h_t h_a1 h_a1_cums h_t_gaps h_t_sums h_t_costs h_t_leasts v_t_ready v_t_frames f_a1_cums N i2 f_t_gaps := by
  obtain ⟨hx, hb, hml, hown, hts⟩ := id C
  have hq : ∀ w ∈ wAll, w.before args s = true := fun w h => hts w (List.mem_cons_of_mem _ h)
  intro H locs hP hD hS ls hl
  unfold fX5_measureGaps_j45 at h
  refine z_iinc (lv' := [(2, .int (iZ (i2 + 1))), (0, .ref h_t), (1, .ref h_a1)]) hx hb dX5_measureGaps_45 hl (k := 2) rfl (by decide) rfl (fun ls hl => ?_)
  refine lv_goto (tgt := 2) hx hb dX5_measureGaps_48 (by decide) ?_
  exact hrec (i2 + 1) f_t_gaps h H locs hP hD hS ls (lv_sub hl [1, 2, 0] rfl)
set_option maxHeartbeats 4000000 in
set_option maxRecDepth 100000 in
theorem wX5_measureGaps_b2 (p : Program) (l : Launch) (e : Env) (s : State) (m : MethodId) (args : Array Value) (below : List Frame) (meth : Method) (c : Code) (Q : State → Prop) (G : ZG) (D : va_G) (cA : Nat → ClassId) (A : Nat → Prop) (h_t h_a1 h_a1_cums h_t_gaps h_t_sums h_t_costs h_t_leasts : Nat) (v_t_ready : Int) (v_t_frames : Int) (f_a1_cums : Nat → Int) (N : Nat) (C : CallFix p m c cX5_measureGaps 4 s args vX5_measureGaps RX5) (hK : va_K D vwCl (zT cA) s) (hA : ∀ q, s.heap.size ≤ q → A q) (hZ : zSt G A s s.heap) (r : (Nat → Int)) (kr : kX5_measureGaps p l e s m args below meth c Q G D cA A h_t h_a1 h_a1_cums h_t_gaps h_t_sums h_t_costs h_t_leasts v_t_ready v_t_frames f_a1_cums N r) (rec : Int → (Nat → Int) → Option ((Nat → Int))) (k : (Nat → Int) → Option ((Nat → Int))) (hrec : ∀ (i2 : Int) (f_t_gaps : Nat → Int), rec i2 f_t_gaps = some r → sX5_measureGaps_2 p l e s m args below meth c Q G D cA A h_t h_a1 h_a1_cums h_t_gaps h_t_sums h_t_costs h_t_leasts v_t_ready v_t_frames f_a1_cums N i2 f_t_gaps) (hk : ∀ (f_t_gaps : Nat → Int), k f_t_gaps = some r → sX5_measureGaps_51 p l e s m args below meth c Q G D cA A h_t h_a1 h_a1_cums h_t_gaps h_t_sums h_t_costs h_t_leasts v_t_ready v_t_frames f_a1_cums N f_t_gaps) (i2 : Int) (f_t_gaps : Nat → Int) (h : fX5_measureGaps_b2 N v_t_frames f_a1_cums rec k i2 f_t_gaps = some r) : sX5_measureGaps_2 p l e s m args below meth c Q G D cA A h_t h_a1 h_a1_cums h_t_gaps h_t_sums h_t_costs h_t_leasts v_t_ready v_t_frames f_a1_cums N i2 f_t_gaps := by
  obtain ⟨hx, hb, hml, hown, hts⟩ := id C
  have hq : ∀ w ∈ wAll, w.before args s = true := fun w h => hts w (List.mem_cons_of_mem _ h)
  intro H locs hP hD hS ls hl
  unfold fX5_measureGaps_b2 at h
  refine lv_iload_n hx hb dX5_measureGaps_2 rfl (lv_at hl 2 rfl) ?_
  refine lv_aload_n hx hb dX5_measureGaps_3 rfl (lv_at hl 0 rfl) ?_
  refine va_get (D := D) (ci := 5) (v := .int (iZ v_t_frames)) (C := RX5) (T := TX5) (N := 6) hx hb hq in_wsX50 hown hK hP 0 rfl rfl 1 (by decide) (hq _ q307) (fun _ h9 => h9) rfl dX5_measureGaps_4 ?_
  refine z_icmp_ge (tgt := 51) hx hb dX5_measureGaps_7 (by decide) (fun c1 => ?_) (fun c1 => ?_)
  · rw [if_neg c1] at h
    exact hk f_t_gaps h H locs hP hD hS ls (lv_sub hl [] rfl)
  · rw [if_pos c1] at h
    refine lv_iload_n hx hb dX5_measureGaps_10 rfl (lv_at hl 2 rfl) ?_
    refine z_iconst hx hb dX5_measureGaps_11 ?_
    refine z_iadd hx hb dX5_measureGaps_12 ?_
    refine lv_istore_n (lv' := [(3, .int (iZ (i2 + 1))), (0, .ref h_t), (1, .ref h_a1), (2, .int (iZ i2))]) hx hb dX5_measureGaps_13 rfl hl (by decide) rfl (fun ls hl => ?_)
    exact wX5_measureGaps_L14 p l e s m args below meth c Q G D cA A h_t h_a1 h_a1_cums h_t_gaps h_t_sums h_t_costs h_t_leasts v_t_ready v_t_frames f_a1_cums N C hK hA hZ r kr (fX5_measureGaps_j45 N v_t_frames f_a1_cums rec k) (fun y0 y1 h9 => wX5_measureGaps_j45 p l e s m args below meth c Q G D cA A h_t h_a1 h_a1_cums h_t_gaps h_t_sums h_t_costs h_t_leasts v_t_ready v_t_frames f_a1_cums N C hK hA hZ r kr rec k hrec hk y0 y1 h9) N i2 (i2 + 1) f_t_gaps h H locs hP hD hS ls (lv_sub hl [1, 2, 3, 0] rfl)
theorem wX5_measureGaps_L2 (p : Program) (l : Launch) (e : Env) (s : State) (m : MethodId) (args : Array Value) (below : List Frame) (meth : Method) (c : Code) (Q : State → Prop) (G : ZG) (D : va_G) (cA : Nat → ClassId) (A : Nat → Prop) (h_t h_a1 h_a1_cums h_t_gaps h_t_sums h_t_costs h_t_leasts : Nat) (v_t_ready : Int) (v_t_frames : Int) (f_a1_cums : Nat → Int) (N : Nat) (C : CallFix p m c cX5_measureGaps 4 s args vX5_measureGaps RX5) (hK : va_K D vwCl (zT cA) s) (hA : ∀ q, s.heap.size ≤ q → A q) (hZ : zSt G A s s.heap) (r : (Nat → Int)) (kr : kX5_measureGaps p l e s m args below meth c Q G D cA A h_t h_a1 h_a1_cums h_t_gaps h_t_sums h_t_costs h_t_leasts v_t_ready v_t_frames f_a1_cums N r) (k : (Nat → Int) → Option ((Nat → Int))) (hk : ∀ (f_t_gaps : Nat → Int), k f_t_gaps = some r → sX5_measureGaps_51 p l e s m args below meth c Q G D cA A h_t h_a1 h_a1_cums h_t_gaps h_t_sums h_t_costs h_t_leasts v_t_ready v_t_frames f_a1_cums N f_t_gaps) : ∀ (n : Nat) (i2 : Int) (f_t_gaps : Nat → Int), fX5_measureGaps_L2 N v_t_frames f_a1_cums k n i2 f_t_gaps = some r → sX5_measureGaps_2 p l e s m args below meth c Q G D cA A h_t h_a1 h_a1_cums h_t_gaps h_t_sums h_t_costs h_t_leasts v_t_ready v_t_frames f_a1_cums N i2 f_t_gaps := by
  intro n
  induction n with
  | zero =>
    intro i2 f_t_gaps h
    have h : none = some r := h
    cases h
  | succ n ih =>
    intro i2 f_t_gaps h
    exact wX5_measureGaps_b2 p l e s m args below meth c Q G D cA A h_t h_a1 h_a1_cums h_t_gaps h_t_sums h_t_costs h_t_leasts v_t_ready v_t_frames f_a1_cums N C hK hA hZ r kr (fX5_measureGaps_L2 N v_t_frames f_a1_cums k n) k ih hk i2 f_t_gaps h
set_option maxHeartbeats 4000000 in
set_option maxRecDepth 100000 in
theorem wX5_measureGaps_j51 (p : Program) (l : Launch) (e : Env) (s : State) (m : MethodId) (args : Array Value) (below : List Frame) (meth : Method) (c : Code) (Q : State → Prop) (G : ZG) (D : va_G) (cA : Nat → ClassId) (A : Nat → Prop) (h_t h_a1 h_a1_cums h_t_gaps h_t_sums h_t_costs h_t_leasts : Nat) (v_t_ready : Int) (v_t_frames : Int) (f_a1_cums : Nat → Int) (N : Nat) (C : CallFix p m c cX5_measureGaps 4 s args vX5_measureGaps RX5) (hK : va_K D vwCl (zT cA) s) (hA : ∀ q, s.heap.size ≤ q → A q) (hZ : zSt G A s s.heap) (r : (Nat → Int)) (kr : kX5_measureGaps p l e s m args below meth c Q G D cA A h_t h_a1 h_a1_cums h_t_gaps h_t_sums h_t_costs h_t_leasts v_t_ready v_t_frames f_a1_cums N r) (f_t_gaps : Nat → Int) (h : fX5_measureGaps_j51 N v_t_frames f_a1_cums f_t_gaps = some r) : sX5_measureGaps_51 p l e s m args below meth c Q G D cA A h_t h_a1 h_a1_cums h_t_gaps h_t_sums h_t_costs h_t_leasts v_t_ready v_t_frames f_a1_cums N f_t_gaps := by
  obtain ⟨hx, hb, hml, hown, hts⟩ := id C
  have hq : ∀ w ∈ wAll, w.before args s = true := fun w h => hts w (List.mem_cons_of_mem _ h)
  intro H locs hP hD hS ls hl
  unfold fX5_measureGaps_j51 at h
  cases h
  exact kr _ _ _ _ dX5_measureGaps_51 hP hD hS
set_option maxHeartbeats 4000000 in
set_option maxRecDepth 100000 in
theorem wX5_measureGaps_E (p : Program) (l : Launch) (e : Env) (s : State) (m : MethodId) (args : Array Value) (below : List Frame) (meth : Method) (c : Code) (Q : State → Prop) (G : ZG) (D : va_G) (cA : Nat → ClassId) (A : Nat → Prop) (h_t h_a1 h_a1_cums h_t_gaps h_t_sums h_t_costs h_t_leasts : Nat) (v_t_ready : Int) (v_t_frames : Int) (f_a1_cums : Nat → Int) (N : Nat) (C : CallFix p m c cX5_measureGaps 4 s args vX5_measureGaps RX5) (hK : va_K D vwCl (zT cA) s) (hA : ∀ q, s.heap.size ≤ q → A q) (hZ : zSt G A s s.heap) (r : (Nat → Int)) (kr : kX5_measureGaps p l e s m args below meth c Q G D cA A h_t h_a1 h_a1_cums h_t_gaps h_t_sums h_t_costs h_t_leasts v_t_ready v_t_frames f_a1_cums N r) (f_t_gaps : Nat → Int) (h : fX5_measureGaps N v_t_frames f_a1_cums f_t_gaps = some r) (H : Heap) (locs : List Loc) (hP : va_P D vwCl (wX5_measureGaps cA h_t h_a1 h_a1_cums h_t_gaps h_t_sums h_t_costs h_t_leasts v_t_ready v_t_frames f_a1_cums f_t_gaps) H) (hD : va_D A (wX5_measureGaps cA h_t h_a1 h_a1_cums h_t_gaps h_t_sums h_t_costs h_t_leasts v_t_ready v_t_frames f_a1_cums f_t_gaps)) (hS : va_S A s.heap H locs) (ls : Array Slot) (hl : lv_has ls 4 [(0, .ref h_t), (1, .ref h_a1)]) : W p l e rmX5_measureGaps s m args below meth c H locs 0 0 Q (F0 m 0 ls []) := by
  obtain ⟨hx, hb, hml, hown, hts⟩ := id C
  have hq : ∀ w ∈ wAll, w.before args s = true := fun w h => hts w (List.mem_cons_of_mem _ h)
  unfold fX5_measureGaps at h
  refine z_iconst hx hb dX5_measureGaps_0 ?_
  refine lv_istore_n (lv' := [(2, .int (iZ 0)), (0, .ref h_t), (1, .ref h_a1)]) hx hb dX5_measureGaps_1 rfl hl (by decide) rfl (fun ls hl => ?_)
  exact wX5_measureGaps_L2 p l e s m args below meth c Q G D cA A h_t h_a1 h_a1_cums h_t_gaps h_t_sums h_t_costs h_t_leasts v_t_ready v_t_frames f_a1_cums N C hK hA hZ r kr (fX5_measureGaps_j51 N v_t_frames f_a1_cums) (fun y0 h9 => wX5_measureGaps_j51 p l e s m args below meth c Q G D cA A h_t h_a1 h_a1_cums h_t_gaps h_t_sums h_t_costs h_t_leasts v_t_ready v_t_frames f_a1_cums N C hK hA hZ r kr y0 h9) N 0 f_t_gaps h H locs hP hD hS ls (lv_sub hl [1, 2, 0] rfl)
set_option maxHeartbeats 4000000 in
set_option maxRecDepth 100000 in
theorem cX5_measureGaps_m (l : Launch) (G : ZG) (D : va_G) (cA : Nat → ClassId) (h_t h_a1 h_a1_cums h_t_gaps h_t_sums h_t_costs h_t_leasts : Nat) (v_t_ready : Int) (v_t_frames : Int) (f_a1_cums : Nat → Int) (f_t_gaps : Nat → Int) (sz N : Nat) {r : (Nat → Int)} (hF : fX5_measureGaps N v_t_frames f_a1_cums f_t_gaps = some r) : zMv l yX5_measureGaps vX5_measureGaps rmX5_measureGaps G D cA [.ref h_t, .ref h_a1] (wX5_measureGaps cA h_t h_a1 h_a1_cums h_t_gaps h_t_sums h_t_costs h_t_leasts v_t_ready v_t_frames f_a1_cums f_t_gaps) (wX5_measureGaps cA h_t h_a1 h_a1_cums h_t_gaps h_t_sums h_t_costs h_t_leasts v_t_ready v_t_frames f_a1_cums r) sz := by
  refine Met.ofW (cc := cX5_measureGaps) (maxL := 4) (ret := none) (by decide) rfl ?_
  intro p e s m args below meth c s₁ B hml hv
  obtain ⟨rfl, hsz, hP, hK, hD0, hZ⟩ := hv
  subst hsz
  have hlocks := B.notSynchronized
  have hl := lv_entry ([.ref h_t, .ref h_a1]) (n := 4) (Nat.le_of_ble_eq_true rfl)
  rw [lg_entry_eq]
  generalize (lg_sl ([.ref h_t, .ref h_a1]) ++ List.replicate (4 - (lg_sl ([.ref h_t, .ref h_a1])).length) Slot.unset).toArray = ls at hl ⊢
  exact wX5_measureGaps_E p l e s m _ below meth c _ G D cA _ h_t h_a1 h_a1_cums h_t_gaps h_t_sums h_t_costs h_t_leasts v_t_ready v_t_frames f_a1_cums N ⟨B.exec, B.bytes, hml, findClass_of_methodNamed B.named, atoms_spec (ws := vX5_measureGaps) B.pre⟩ hK (fun q h => Or.inr h) hZ r (fun pc H locs ls hd hP hD hS => W.vret B.exec B.bytes B.returns (fun t ht hW => ⟨⟨(), rfl, trivial, by rw [ht]; exact hP, va_K.moved hW.alike hK, hD⟩, hS.F ht⟩) hS.2.2 hd) f_t_gaps hF s.heap [] hP (hD0.self (sz := s.heap.size)) va_S.rf ls hl

/-! ===== FlickerDesk$Parting.addCosts(I)V ===== -/
abbrev rmX5_addCosts : Room := { frames := 1, cells := 0, slots := 0, locals := 24 }
abbrev wX5_addCosts (cA : Nat → ClassId) (h_t h_t_gaps h_t_sums h_t_costs h_t_leasts : Nat) (v_t_ready : Int) (v_t_frames : Int) (f_t_gaps : Nat → Int) (f_t_sums : Nat → Int) (f_t_costs : Nat → Int) : va_W := [(h_t, .inr (5, [.int (iZ v_t_ready), .int (iZ v_t_frames), .ref h_t_sums, .ref h_t_gaps, .ref h_t_costs, .ref h_t_leasts])), (h_t_gaps, zA (cA 0) 576 f_t_gaps), (h_t_sums, zA (cA 0) 24 f_t_sums), (h_t_costs, zA (cA 0) 576 f_t_costs)]
def fX5_addCosts_b19 (N : Nat) (v_t_frames : Int) (f_t_gaps : Nat → Int) (x1 : Int) (rec : Int → Int → Int → Int → (Nat → Int) → (Nat → Int) → Option ((Nat → Int) × (Nat → Int))) (k : Int → Int → Int → (Nat → Int) → (Nat → Int) → Option ((Nat → Int) × (Nat → Int))) (i2 : Int) (i3 : Int) (i4 : Int) (i5 : Int) (f_t_sums : Nat → Int) (f_t_costs : Nat → Int) : Option ((Nat → Int) × (Nat → Int)) := (if iZ i5 < iZ i2 then (gd ((0 : Int) ≤ (i5 * 24) + i2 ∧ (i5 * 24) + i2 < 576) (gd ((0 : Int) ≤ i5 ∧ i5 < 24) (gd ((0 : Int) ≤ i5 ∧ i5 < 24) (gd ((0 : Int) ≤ i5 ∧ i5 < 24) (rec i2 (mnZ i3 ((uZ f_t_sums i5.toNat ((f_t_sums i5.toNat) + (f_t_gaps ((i5 * 24) + i2).toNat))) i5.toNat)) (i4 + (f_t_gaps ((i5 * 24) + i2).toNat)) (i5 + 1) (uZ f_t_sums i5.toNat ((f_t_sums i5.toNat) + (f_t_gaps ((i5 * 24) + i2).toNat))) f_t_costs))))) else (k i2 i3 i4 f_t_sums f_t_costs))
def fX5_addCosts_L19 (N : Nat) (v_t_frames : Int) (f_t_gaps : Nat → Int) (x1 : Int) (k : Int → Int → Int → (Nat → Int) → (Nat → Int) → Option ((Nat → Int) × (Nat → Int))) : Nat → Int → Int → Int → Int → (Nat → Int) → (Nat → Int) → Option ((Nat → Int) × (Nat → Int))
  | 0 => fun _ _ _ _ _ _ => none
  | n + 1 => fX5_addCosts_b19 N v_t_frames f_t_gaps x1 (fX5_addCosts_L19 N v_t_frames f_t_gaps x1 k n) k
def fX5_addCosts_j76 (N : Nat) (v_t_frames : Int) (f_t_gaps : Nat → Int) (x1 : Int) (rec : Int → (Nat → Int) → (Nat → Int) → Option ((Nat → Int) × (Nat → Int))) (k : (Nat → Int) → (Nat → Int) → Option ((Nat → Int) × (Nat → Int))) (i2 : Int) (i3 : Int) (i4 : Int) (f_t_sums : Nat → Int) (f_t_costs : Nat → Int) : Option ((Nat → Int) × (Nat → Int)) := (gd ((0 : Int) ≤ i2 ∧ i2 < 24) (gd ((0 : Int) ≤ (x1 * 24) + i2 ∧ (x1 * 24) + i2 < 576) (rec (i2 + 1) (uZ f_t_sums i2.toNat i4) (uZ f_t_costs ((x1 * 24) + i2).toNat (mnZ i3 i4)))))
def fX5_addCosts_b2 (N : Nat) (v_t_frames : Int) (f_t_gaps : Nat → Int) (x1 : Int) (rec : Int → (Nat → Int) → (Nat → Int) → Option ((Nat → Int) × (Nat → Int))) (k : (Nat → Int) → (Nat → Int) → Option ((Nat → Int) × (Nat → Int))) (i2 : Int) (f_t_sums : Nat → Int) (f_t_costs : Nat → Int) : Option ((Nat → Int) × (Nat → Int)) := (if iZ i2 < iZ v_t_frames then (fX5_addCosts_L19 N v_t_frames f_t_gaps x1 (fX5_addCosts_j76 N v_t_frames f_t_gaps x1 rec k) N i2 1000000 0 x1 f_t_sums f_t_costs) else (k f_t_sums f_t_costs))
def fX5_addCosts_L2 (N : Nat) (v_t_frames : Int) (f_t_gaps : Nat → Int) (x1 : Int) (k : (Nat → Int) → (Nat → Int) → Option ((Nat → Int) × (Nat → Int))) : Nat → Int → (Nat → Int) → (Nat → Int) → Option ((Nat → Int) × (Nat → Int))
  | 0 => fun _ _ _ => none
  | n + 1 => fX5_addCosts_b2 N v_t_frames f_t_gaps x1 (fX5_addCosts_L2 N v_t_frames f_t_gaps x1 k n) k
def fX5_addCosts_j107 (N : Nat) (v_t_frames : Int) (f_t_gaps : Nat → Int) (x1 : Int) (f_t_sums : Nat → Int) (f_t_costs : Nat → Int) : Option ((Nat → Int) × (Nat → Int)) := (some ((f_t_sums, f_t_costs)))
def fX5_addCosts (N : Nat) (v_t_frames : Int) (f_t_gaps : Nat → Int) (f_t_sums : Nat → Int) (f_t_costs : Nat → Int) (x1 : Int) : Option ((Nat → Int) × (Nat → Int)) := (fX5_addCosts_L2 N v_t_frames f_t_gaps x1 (fX5_addCosts_j107 N v_t_frames f_t_gaps x1) N x1 f_t_sums f_t_costs)
abbrev kX5_addCosts (p : Program) (l : Launch) (e : Env) (s : State) (m : MethodId) (args : Array Value) (below : List Frame) (meth : Method) (c : Code) (Q : State → Prop) (G : ZG) (D : va_G) (cA : Nat → ClassId) (A : Nat → Prop) (h_t h_t_gaps h_t_sums h_t_costs h_t_leasts : Nat) (v_t_ready : Int) (v_t_frames : Int) (f_t_gaps : Nat → Int) (x1 : Int) (N : Nat) (r : (Nat → Int) × (Nat → Int)) : Prop := ∀ (pc : Nat) (H : Heap) (locs : List Loc) (ls : Array Slot), decode cX5_addCosts pc = .ok (.return_, 1) → va_P D vwCl (wX5_addCosts cA h_t h_t_gaps h_t_sums h_t_costs h_t_leasts v_t_ready v_t_frames f_t_gaps r.1 r.2) H → va_D A (wX5_addCosts cA h_t h_t_gaps h_t_sums h_t_costs h_t_leasts v_t_ready v_t_frames f_t_gaps r.1 r.2) → va_S A s.heap H locs → W p l e rmX5_addCosts s m args below meth c H locs 0 0 Q (F0 m pc ls [])
abbrev sX5_addCosts_76 (p : Program) (l : Launch) (e : Env) (s : State) (m : MethodId) (args : Array Value) (below : List Frame) (meth : Method) (c : Code) (Q : State → Prop) (G : ZG) (D : va_G) (cA : Nat → ClassId) (A : Nat → Prop) (h_t h_t_gaps h_t_sums h_t_costs h_t_leasts : Nat) (v_t_ready : Int) (v_t_frames : Int) (f_t_gaps : Nat → Int) (x1 : Int) (N : Nat) (i2 : Int) (i3 : Int) (i4 : Int) (f_t_sums : Nat → Int) (f_t_costs : Nat → Int) : Prop := ∀ (H : Heap) (locs : List Loc), va_P D vwCl (wX5_addCosts cA h_t h_t_gaps h_t_sums h_t_costs h_t_leasts v_t_ready v_t_frames f_t_gaps f_t_sums f_t_costs) H → va_D A (wX5_addCosts cA h_t h_t_gaps h_t_sums h_t_costs h_t_leasts v_t_ready v_t_frames f_t_gaps f_t_sums f_t_costs) → va_S A s.heap H locs → ∀ ls : Array Slot, lv_has ls 7 [(0, .ref h_t), (1, .int (iZ x1)), (2, .int (iZ i2)), (3, .int (iZ i3)), (4, .int (iZ i4))] → W p l e rmX5_addCosts s m args below meth c H locs 0 0 Q (F0 m 76 ls [])
abbrev sX5_addCosts_19 (p : Program) (l : Launch) (e : Env) (s : State) (m : MethodId) (args : Array Value) (below : List Frame) (meth : Method) (c : Code) (Q : State → Prop) (G : ZG) (D : va_G) (cA : Nat → ClassId) (A : Nat → Prop) (h_t h_t_gaps h_t_sums h_t_costs h_t_leasts : Nat) (v_t_ready : Int) (v_t_frames : Int) (f_t_gaps : Nat → Int) (x1 : Int) (N : Nat) (i2 : Int) (i3 : Int) (i4 : Int) (i5 : Int) (f_t_sums : Nat → Int) (f_t_costs : Nat → Int) : Prop := ∀ (H : Heap) (locs : List Loc), va_P D vwCl (wX5_addCosts cA h_t h_t_gaps h_t_sums h_t_costs h_t_leasts v_t_ready v_t_frames f_t_gaps f_t_sums f_t_costs) H → va_D A (wX5_addCosts cA h_t h_t_gaps h_t_sums h_t_costs h_t_leasts v_t_ready v_t_frames f_t_gaps f_t_sums f_t_costs) → va_S A s.heap H locs → ∀ ls : Array Slot, lv_has ls 7 [(0, .ref h_t), (1, .int (iZ x1)), (2, .int (iZ i2)), (3, .int (iZ i3)), (4, .int (iZ i4)), (5, .int (iZ i5))] → W p l e rmX5_addCosts s m args below meth c H locs 0 0 Q (F0 m 19 ls [])
abbrev sX5_addCosts_107 (p : Program) (l : Launch) (e : Env) (s : State) (m : MethodId) (args : Array Value) (below : List Frame) (meth : Method) (c : Code) (Q : State → Prop) (G : ZG) (D : va_G) (cA : Nat → ClassId) (A : Nat → Prop) (h_t h_t_gaps h_t_sums h_t_costs h_t_leasts : Nat) (v_t_ready : Int) (v_t_frames : Int) (f_t_gaps : Nat → Int) (x1 : Int) (N : Nat) (f_t_sums : Nat → Int) (f_t_costs : Nat → Int) : Prop := ∀ (H : Heap) (locs : List Loc), va_P D vwCl (wX5_addCosts cA h_t h_t_gaps h_t_sums h_t_costs h_t_leasts v_t_ready v_t_frames f_t_gaps f_t_sums f_t_costs) H → va_D A (wX5_addCosts cA h_t h_t_gaps h_t_sums h_t_costs h_t_leasts v_t_ready v_t_frames f_t_gaps f_t_sums f_t_costs) → va_S A s.heap H locs → ∀ ls : Array Slot, lv_has ls 7 [] → W p l e rmX5_addCosts s m args below meth c H locs 0 0 Q (F0 m 107 ls [])
abbrev sX5_addCosts_2 (p : Program) (l : Launch) (e : Env) (s : State) (m : MethodId) (args : Array Value) (below : List Frame) (meth : Method) (c : Code) (Q : State → Prop) (G : ZG) (D : va_G) (cA : Nat → ClassId) (A : Nat → Prop) (h_t h_t_gaps h_t_sums h_t_costs h_t_leasts : Nat) (v_t_ready : Int) (v_t_frames : Int) (f_t_gaps : Nat → Int) (x1 : Int) (N : Nat) (i2 : Int) (f_t_sums : Nat → Int) (f_t_costs : Nat → Int) : Prop := ∀ (H : Heap) (locs : List Loc), va_P D vwCl (wX5_addCosts cA h_t h_t_gaps h_t_sums h_t_costs h_t_leasts v_t_ready v_t_frames f_t_gaps f_t_sums f_t_costs) H → va_D A (wX5_addCosts cA h_t h_t_gaps h_t_sums h_t_costs h_t_leasts v_t_ready v_t_frames f_t_gaps f_t_sums f_t_costs) → va_S A s.heap H locs → ∀ ls : Array Slot, lv_has ls 7 [(0, .ref h_t), (1, .int (iZ x1)), (2, .int (iZ i2))] → W p l e rmX5_addCosts s m args below meth c H locs 0 0 Q (F0 m 2 ls [])
set_option maxHeartbeats 4000000 in
set_option maxRecDepth 100000 in
theorem wX5_addCosts_b19 (p : Program) (l : Launch) (e : Env) (s : State) (m : MethodId) (args : Array Value) (below : List Frame) (meth : Method) (c : Code) (Q : State → Prop) (G : ZG) (D : va_G) (cA : Nat → ClassId) (A : Nat → Prop) (h_t h_t_gaps h_t_sums h_t_costs h_t_leasts : Nat) (v_t_ready : Int) (v_t_frames : Int) (f_t_gaps : Nat → Int) (x1 : Int) (N : Nat) (C : CallFix p m c cX5_addCosts 7 s args vX5_addCosts RX5) (hK : va_K D vwCl (zT cA) s) (hA : ∀ q, s.heap.size ≤ q → A q) (hZ : zSt G A s s.heap) (r : (Nat → Int) × (Nat → Int)) (kr : kX5_addCosts p l e s m args below meth c Q G D cA A h_t h_t_gaps h_t_sums h_t_costs h_t_leasts v_t_ready v_t_frames f_t_gaps x1 N r) (rec : Int → Int → Int → Int → (Nat → Int) → (Nat → Int) → Option ((Nat → Int) × (Nat → Int))) (k : Int → Int → Int → (Nat → Int) → (Nat → Int) → Option ((Nat → Int) × (Nat → Int))) (hrec : ∀ (i2 : Int) (i3 : Int) (i4 : Int) (i5 : Int) (f_t_sums : Nat → Int) (f_t_costs : Nat → Int), rec i2 i3 i4 i5 f_t_sums f_t_costs = some r → sX5_addCosts_19 p l e s m args below meth c Q G D cA A h_t h_t_gaps h_t_sums h_t_costs h_t_leasts v_t_ready v_t_frames f_t_gaps x1 N i2 i3 i4 i5 f_t_sums f_t_costs) (hk : ∀ (i2 : Int) (i3 : Int) (i4 : Int) (f_t_sums : Nat → Int) (f_t_costs : Nat → Int), k i2 i3 i4 f_t_sums f_t_costs = some r → sX5_addCosts_76 p l e s m args below meth c Q G D cA A h_t h_t_gaps h_t_sums h_t_costs h_t_leasts v_t_ready v_t_frames f_t_gaps x1 N i2 i3 i4 f_t_sums f_t_costs) (i2 : Int) (i3 : Int) (i4 : Int) (i5 : Int) (f_t_sums : Nat → Int) (f_t_costs : Nat → Int) (h : fX5_addCosts_b19 N v_t_frames f_t_gaps x1 rec k i2 i3 i4 i5 f_t_sums f_t_costs = some r) : sX5_addCosts_19 p l e s m args below meth c Q G D cA A h_t h_t_gaps h_t_sums h_t_costs h_t_leasts v_t_ready v_t_frames f_t_gaps x1 N i2 i3 i4 i5 f_t_sums f_t_costs := by
  obtain ⟨hx, hb, hml, hown, hts⟩ := id C
  have hq : ∀ w ∈ wAll, w.before args s = true := fun w h => hts w (List.mem_cons_of_mem _ h)
  intro H locs hP hD hS ls hl
  unfold fX5_addCosts_b19 at h
  refine lv_iload hx hb dX5_addCosts_19 (lv_at hl 5 rfl) ?_
  refine lv_iload_n hx hb dX5_addCosts_21 rfl (lv_at hl 2 rfl) ?_
  refine z_icmp_ge (tgt := 76) hx hb dX5_addCosts_22 (by decide) (fun c2 => ?_) (fun c2 => ?_)
  · rw [if_neg c2] at h
    exact hk i2 i3 i4 f_t_sums f_t_costs h H locs hP hD hS ls (lv_sub hl [0, 1, 2, 3, 4] rfl)
  · rw [if_pos c2] at h
    refine lv_aload_n hx hb dX5_addCosts_25 rfl (lv_at hl 0 rfl) ?_
    refine va_get (D := D) (ci := 5) (v := .ref h_t_gaps) (C := RX5) (T := TX5) (N := 6) hx hb hq in_wsX50 hown hK hP 0 rfl rfl 3 (by decide) (hq _ q303) (fun _ h9 => h9) rfl dX5_addCosts_26 ?_
    refine lv_iload hx hb dX5_addCosts_29 (lv_at hl 5 rfl) ?_
    refine z_bipush hx hb dX5_addCosts_31 (by decide) ?_
    refine z_imul hx hb dX5_addCosts_33 ?_
    refine lv_iload_n hx hb dX5_addCosts_34 rfl (lv_at hl 2 rfl) ?_
    refine z_iadd hx hb dX5_addCosts_35 ?_
    obtain ⟨g3, h⟩ := gd_some h
    refine z_iald hx hb hK hP 1 0 rfl rfl (Nat.le_of_ble_eq_true rfl) g3 dX5_addCosts_36 ?_
    refine lv_istore (lv' := [(6, .int (iZ (f_t_gaps ((i5 * 24) + i2).toNat))), (0, .ref h_t), (1, .int (iZ x1)), (2, .int (iZ i2)), (3, .int (iZ i3)), (4, .int (iZ i4)), (5, .int (iZ i5))]) hx hb dX5_addCosts_37 hl (by decide) rfl (fun ls hl => ?_)
    refine lv_iload hx hb dX5_addCosts_39 (lv_at hl 5 rfl) ?_
    refine lv_iload hx hb dX5_addCosts_41 (lv_at hl 0 rfl) ?_
    refine z_iadd hx hb dX5_addCosts_43 ?_
    refine lv_istore (lv' := [(4, .int (iZ (i4 + (f_t_gaps ((i5 * 24) + i2).toNat)))), (6, .int (iZ (f_t_gaps ((i5 * 24) + i2).toNat))), (0, .ref h_t), (1, .int (iZ x1)), (2, .int (iZ i2)), (3, .int (iZ i3)), (5, .int (iZ i5))]) hx hb dX5_addCosts_44 hl (by decide) rfl (fun ls hl => ?_)
    refine lv_aload_n hx hb dX5_addCosts_46 rfl (lv_at hl 2 rfl) ?_
    refine va_get (D := D) (ci := 5) (v := .ref h_t_sums) (C := RX5) (T := TX5) (N := 6) hx hb hq in_wsX50 hown hK hP 0 rfl rfl 2 (by decide) (hq _ q302) (fun _ h9 => h9) rfl dX5_addCosts_47 ?_
    refine lv_iload hx hb dX5_addCosts_50 (lv_at hl 6 rfl) ?_
    refine lv_dup2_11 hx hb dX5_addCosts_52 rfl rfl ?_
    obtain ⟨g4, h⟩ := gd_some h
    refine z_iald hx hb hK hP 2 0 rfl rfl (Nat.le_of_ble_eq_true rfl) g4 dX5_addCosts_53 ?_
    refine lv_iload hx hb dX5_addCosts_54 (lv_at hl 1 rfl) ?_
    refine z_iadd hx hb dX5_addCosts_56 ?_
    obtain ⟨g5, h⟩ := gd_some h
    refine z_iast (ws' := (wX5_addCosts cA h_t h_t_gaps h_t_sums h_t_costs h_t_leasts v_t_ready v_t_frames f_t_gaps (uZ f_t_sums i5.toNat ((f_t_sums i5.toNat) + (f_t_gaps ((i5 * 24) + i2).toNat))) f_t_costs)) hx hb hK hP hD hS 2 0 rfl rfl (Nat.le_of_ble_eq_true rfl) g5 rfl dX5_addCosts_57 (fun H locs hP hD hS => ?_)
    refine lv_iload_n hx hb dX5_addCosts_58 rfl (lv_at hl 5 rfl) ?_
    refine lv_aload_n hx hb dX5_addCosts_59 rfl (lv_at hl 2 rfl) ?_
    refine va_get (D := D) (ci := 5) (v := .ref h_t_sums) (C := RX5) (T := TX5) (N := 6) hx hb hq in_wsX50 hown hK hP 0 rfl rfl 2 (by decide) (hq _ q302) (fun _ h9 => h9) rfl dX5_addCosts_60 ?_
    refine lv_iload hx hb dX5_addCosts_63 (lv_at hl 6 rfl) ?_
    obtain ⟨g6, h⟩ := gd_some h
    refine z_iald hx hb hK hP 2 0 rfl rfl (Nat.le_of_ble_eq_true rfl) g6 dX5_addCosts_65 ?_
    refine z_mmin hx hb (by rw [hml]; exact hl.1.symm) hown (hq _ q311) (hq _ q141) (hq _ q133) (hq _ q142) (Nat.le_of_ble_eq_true rfl) (Nat.le_of_ble_eq_true rfl) (Nat.zero_le _) (Nat.zero_le _) dX5_addCosts_66 ?_
    refine lv_istore_n (lv' := [(3, .int (iZ (mnZ i3 ((uZ f_t_sums i5.toNat ((f_t_sums i5.toNat) + (f_t_gaps ((i5 * 24) + i2).toNat))) i5.toNat)))), (4, .int (iZ (i4 + (f_t_gaps ((i5 * 24) + i2).toNat)))), (6, .int (iZ (f_t_gaps ((i5 * 24) + i2).toNat))), (0, .ref h_t), (1, .int (iZ x1)), (2, .int (iZ i2)), (5, .int (iZ i5))]) hx hb dX5_addCosts_69 rfl hl (by decide) rfl (fun ls hl => ?_)
    refine z_iinc (lv' := [(5, .int (iZ (i5 + 1))), (3, .int (iZ (mnZ i3 ((uZ f_t_sums i5.toNat ((f_t_sums i5.toNat) + (f_t_gaps ((i5 * 24) + i2).toNat))) i5.toNat)))), (4, .int (iZ (i4 + (f_t_gaps ((i5 * 24) + i2).toNat)))), (6, .int (iZ (f_t_gaps ((i5 * 24) + i2).toNat))), (0, .ref h_t), (1, .int (iZ x1)), (2, .int (iZ i2))]) hx hb dX5_addCosts_70 hl (k := 6) rfl (by decide) rfl (fun ls hl => ?_)
    refine lv_goto (tgt := 19) hx hb dX5_addCosts_73 (by decide) ?_
    exact hrec i2 (mnZ i3 ((uZ f_t_sums i5.toNat ((f_t_sums i5.toNat) + (f_t_gaps ((i5 * 24) + i2).toNat))) i5.toNat)) (i4 + (f_t_gaps ((i5 * 24) + i2).toNat)) (i5 + 1) (uZ f_t_sums i5.toNat ((f_t_sums i5.toNat) + (f_t_gaps ((i5 * 24) + i2).toNat))) f_t_costs h H locs hP hD hS ls (lv_sub hl [4, 5, 6, 1, 2, 0] rfl)
theorem wX5_addCosts_L19 (p : Program) (l : Launch) (e : Env) (s : State) (m : MethodId) (args : Array Value) (below : List Frame) (meth : Method) (c : Code) (Q : State → Prop) (G : ZG) (D : va_G) (cA : Nat → ClassId) (A : Nat → Prop) (h_t h_t_gaps h_t_sums h_t_costs h_t_leasts : Nat) (v_t_ready : Int) (v_t_frames : Int) (f_t_gaps : Nat → Int) (x1 : Int) (N : Nat) (C : CallFix p m c cX5_addCosts 7 s args vX5_addCosts RX5) (hK : va_K D vwCl (zT cA) s) (hA : ∀ q, s.heap.size ≤ q → A q) (hZ : zSt G A s s.heap) (r : (Nat → Int) × (Nat → Int)) (kr : kX5_addCosts p l e s m args below meth c Q G D cA A h_t h_t_gaps h_t_sums h_t_costs h_t_leasts v_t_ready v_t_frames f_t_gaps x1 N r) (k : Int → Int → Int → (Nat → Int) → (Nat → Int) → Option ((Nat → Int) × (Nat → Int))) (hk : ∀ (i2 : Int) (i3 : Int) (i4 : Int) (f_t_sums : Nat → Int) (f_t_costs : Nat → Int), k i2 i3 i4 f_t_sums f_t_costs = some r → sX5_addCosts_76 p l e s m args below meth c Q G D cA A h_t h_t_gaps h_t_sums h_t_costs h_t_leasts v_t_ready v_t_frames f_t_gaps x1 N i2 i3 i4 f_t_sums f_t_costs) : ∀ (n : Nat) (i2 : Int) (i3 : Int) (i4 : Int) (i5 : Int) (f_t_sums : Nat → Int) (f_t_costs : Nat → Int), fX5_addCosts_L19 N v_t_frames f_t_gaps x1 k n i2 i3 i4 i5 f_t_sums f_t_costs = some r → sX5_addCosts_19 p l e s m args below meth c Q G D cA A h_t h_t_gaps h_t_sums h_t_costs h_t_leasts v_t_ready v_t_frames f_t_gaps x1 N i2 i3 i4 i5 f_t_sums f_t_costs := by
  intro n
  induction n with
  | zero =>
    intro i2 i3 i4 i5 f_t_sums f_t_costs h
    have h : none = some r := h
    cases h
  | succ n ih =>
    intro i2 i3 i4 i5 f_t_sums f_t_costs h
    exact wX5_addCosts_b19 p l e s m args below meth c Q G D cA A h_t h_t_gaps h_t_sums h_t_costs h_t_leasts v_t_ready v_t_frames f_t_gaps x1 N C hK hA hZ r kr (fX5_addCosts_L19 N v_t_frames f_t_gaps x1 k n) k ih hk i2 i3 i4 i5 f_t_sums f_t_costs h
set_option maxHeartbeats 4000000 in
set_option maxRecDepth 100000 in
theorem wX5_addCosts_j76 (p : Program) (l : Launch) (e : Env) (s : State) (m : MethodId) (args : Array Value) (below : List Frame) (meth : Method) (c : Code) (Q : State → Prop) (G : ZG) (D : va_G) (cA : Nat → ClassId) (A : Nat → Prop) (h_t h_t_gaps h_t_sums h_t_costs h_t_leasts : Nat) (v_t_ready : Int) (v_t_frames : Int) (f_t_gaps : Nat → Int) (x1 : Int) (N : Nat) (C : CallFix p m c cX5_addCosts 7 s args vX5_addCosts RX5) (hK : va_K D vwCl (zT cA) s) (hA : ∀ q, s.heap.size ≤ q → A q) (hZ : zSt G A s s.heap) (r : (Nat → Int) × (Nat → Int)) (kr : kX5_addCosts p l e s m args below meth c Q G D cA A h_t h_t_gaps h_t_sums h_t_costs h_t_leasts v_t_ready v_t_frames f_t_gaps x1 N r) (rec : Int → (Nat → Int) → (Nat → Int) → Option ((Nat → Int) × (Nat → Int))) (k : (Nat → Int) → (Nat → Int) → Option ((Nat → Int) × (Nat → Int))) (hrec : ∀ (i2 : Int) (f_t_sums : Nat → Int) (f_t_costs : Nat → Int), rec i2 f_t_sums f_t_costs = some r → sX5_addCosts_2 p l e s m args below meth c Q G D cA A h_t h_t_gaps h_t_sums h_t_costs h_t_leasts v_t_ready v_t_frames f_t_gaps x1 N i2 f_t_sums f_t_costs) (hk : ∀ (f_t_sums : Nat → Int) (f_t_costs : Nat → Int), k f_t_sums f_t_costs = some r → sX5_addCosts_107 p l e s m args below meth c Q G D cA A h_t h_t_gaps h_t_sums h_t_costs h_t_leasts v_t_ready v_t_frames f_t_gaps x1 N f_t_sums f_t_costs) (i2 : Int) (i3 : Int) (i4 : Int) (f_t_sums : Nat → Int) (f_t_costs : Nat → Int) (h : fX5_addCosts_j76 N v_t_frames f_t_gaps x1 rec k i2 i3 i4 f_t_sums f_t_costs = some r) : sX5_addCosts_76 p l e s m args below meth c Q G D cA A h_t h_t_gaps h_t_sums h_t_costs h_t_leasts v_t_ready v_t_frames f_t_gaps x1 N i2 i3 i4 f_t_sums f_t_costs := by
  obtain ⟨hx, hb, hml, hown, hts⟩ := id C
  have hq : ∀ w ∈ wAll, w.before args s = true := fun w h => hts w (List.mem_cons_of_mem _ h)
  intro H locs hP hD hS ls hl
  unfold fX5_addCosts_j76 at h
  refine lv_aload_n hx hb dX5_addCosts_76 rfl (lv_at hl 0 rfl) ?_
  refine va_get (D := D) (ci := 5) (v := .ref h_t_sums) (C := RX5) (T := TX5) (N := 6) hx hb hq in_wsX50 hown hK hP 0 rfl rfl 2 (by decide) (hq _ q302) (fun _ h9 => h9) rfl dX5_addCosts_77 ?_
  refine lv_iload_n hx hb dX5_addCosts_80 rfl (lv_at hl 2 rfl) ?_
  refine lv_iload hx hb dX5_addCosts_81 (lv_at hl 4 rfl) ?_
  obtain ⟨g7, h⟩ := gd_some h
  refine z_iast (ws' := (wX5_addCosts cA h_t h_t_gaps h_t_sums h_t_costs h_t_leasts v_t_ready v_t_frames f_t_gaps (uZ f_t_sums i2.toNat i4) f_t_costs)) hx hb hK hP hD hS 2 0 rfl rfl (Nat.le_of_ble_eq_true rfl) g7 rfl dX5_addCosts_83 (fun H locs hP hD hS => ?_)
  refine lv_aload_n hx hb dX5_addCosts_84 rfl (lv_at hl 0 rfl) ?_
  refine va_get (D := D) (ci := 5) (v := .ref h_t_costs) (C := RX5) (T := TX5) (N := 6) hx hb hq in_wsX50 hown hK hP 0 rfl rfl 4 (by decide) (hq _ q304) (fun _ h9 => h9) rfl dX5_addCosts_85 ?_
  refine lv_iload_n hx hb dX5_addCosts_88 rfl (lv_at hl 1 rfl) ?_
  refine z_bipush hx hb dX5_addCosts_89 (by decide) ?_
  refine z_imul hx hb dX5_addCosts_91 ?_
  refine lv_iload_n hx hb dX5_addCosts_92 rfl (lv_at hl 2 rfl) ?_
  refine z_iadd hx hb dX5_addCosts_93 ?_
  refine lv_iload_n hx hb dX5_addCosts_94 rfl (lv_at hl 3 rfl) ?_
  refine lv_iload hx hb dX5_addCosts_95 (lv_at hl 4 rfl) ?_
  refine z_mmin hx hb (by rw [hml]; exact hl.1.symm) hown (hq _ q311) (hq _ q141) (hq _ q133) (hq _ q142) (Nat.le_of_ble_eq_true rfl) (Nat.le_of_ble_eq_true rfl) (Nat.zero_le _) (Nat.zero_le _) dX5_addCosts_97 ?_
  obtain ⟨g8, h⟩ := gd_some h
  refine z_iast (ws' := (wX5_addCosts cA h_t h_t_gaps h_t_sums h_t_costs h_t_leasts v_t_ready v_t_frames f_t_gaps (uZ f_t_sums i2.toNat i4) (uZ f_t_costs ((x1 * 24) + i2).toNat (mnZ i3 i4)))) hx hb hK hP hD hS 3 0 rfl rfl (Nat.le_of_ble_eq_true rfl) g8 rfl dX5_addCosts_100 (fun H locs hP hD hS => ?_)
  refine z_iinc (lv' := [(2, .int (iZ (i2 + 1))), (0, .ref h_t), (1, .int (iZ x1)), (3, .int (iZ i3)), (4, .int (iZ i4))]) hx hb dX5_addCosts_101 hl (k := 2) rfl (by decide) rfl (fun ls hl => ?_)
  refine lv_goto (tgt := 2) hx hb dX5_addCosts_104 (by decide) ?_
  exact hrec (i2 + 1) (uZ f_t_sums i2.toNat i4) (uZ f_t_costs ((x1 * 24) + i2).toNat (mnZ i3 i4)) h H locs hP hD hS ls (lv_sub hl [1, 2, 0] rfl)
set_option maxHeartbeats 4000000 in
set_option maxRecDepth 100000 in
theorem wX5_addCosts_b2 (p : Program) (l : Launch) (e : Env) (s : State) (m : MethodId) (args : Array Value) (below : List Frame) (meth : Method) (c : Code) (Q : State → Prop) (G : ZG) (D : va_G) (cA : Nat → ClassId) (A : Nat → Prop) (h_t h_t_gaps h_t_sums h_t_costs h_t_leasts : Nat) (v_t_ready : Int) (v_t_frames : Int) (f_t_gaps : Nat → Int) (x1 : Int) (N : Nat) (C : CallFix p m c cX5_addCosts 7 s args vX5_addCosts RX5) (hK : va_K D vwCl (zT cA) s) (hA : ∀ q, s.heap.size ≤ q → A q) (hZ : zSt G A s s.heap) (r : (Nat → Int) × (Nat → Int)) (kr : kX5_addCosts p l e s m args below meth c Q G D cA A h_t h_t_gaps h_t_sums h_t_costs h_t_leasts v_t_ready v_t_frames f_t_gaps x1 N r) (rec : Int → (Nat → Int) → (Nat → Int) → Option ((Nat → Int) × (Nat → Int))) (k : (Nat → Int) → (Nat → Int) → Option ((Nat → Int) × (Nat → Int))) (hrec : ∀ (i2 : Int) (f_t_sums : Nat → Int) (f_t_costs : Nat → Int), rec i2 f_t_sums f_t_costs = some r → sX5_addCosts_2 p l e s m args below meth c Q G D cA A h_t h_t_gaps h_t_sums h_t_costs h_t_leasts v_t_ready v_t_frames f_t_gaps x1 N i2 f_t_sums f_t_costs) (hk : ∀ (f_t_sums : Nat → Int) (f_t_costs : Nat → Int), k f_t_sums f_t_costs = some r → sX5_addCosts_107 p l e s m args below meth c Q G D cA A h_t h_t_gaps h_t_sums h_t_costs h_t_leasts v_t_ready v_t_frames f_t_gaps x1 N f_t_sums f_t_costs) (i2 : Int) (f_t_sums : Nat → Int) (f_t_costs : Nat → Int) (h : fX5_addCosts_b2 N v_t_frames f_t_gaps x1 rec k i2 f_t_sums f_t_costs = some r) : sX5_addCosts_2 p l e s m args below meth c Q G D cA A h_t h_t_gaps h_t_sums h_t_costs h_t_leasts v_t_ready v_t_frames f_t_gaps x1 N i2 f_t_sums f_t_costs := by
  obtain ⟨hx, hb, hml, hown, hts⟩ := id C
  have hq : ∀ w ∈ wAll, w.before args s = true := fun w h => hts w (List.mem_cons_of_mem _ h)
  intro H locs hP hD hS ls hl
  unfold fX5_addCosts_b2 at h
  refine lv_iload_n hx hb dX5_addCosts_2 rfl (lv_at hl 2 rfl) ?_
  refine lv_aload_n hx hb dX5_addCosts_3 rfl (lv_at hl 0 rfl) ?_
  refine va_get (D := D) (ci := 5) (v := .int (iZ v_t_frames)) (C := RX5) (T := TX5) (N := 6) hx hb hq in_wsX50 hown hK hP 0 rfl rfl 1 (by decide) (hq _ q307) (fun _ h9 => h9) rfl dX5_addCosts_4 ?_
  refine z_icmp_ge (tgt := 107) hx hb dX5_addCosts_7 (by decide) (fun c1 => ?_) (fun c1 => ?_)
  · rw [if_neg c1] at h
    exact hk f_t_sums f_t_costs h H locs hP hD hS ls (lv_sub hl [] rfl)
  · rw [if_pos c1] at h
    refine z_ldc (v := 1000000) (n := 1000000) (by decide) hx hb hown (hq _ q310) dX5_addCosts_10 ?_
    refine lv_istore_n (lv' := [(3, .int (iZ 1000000)), (0, .ref h_t), (1, .int (iZ x1)), (2, .int (iZ i2))]) hx hb dX5_addCosts_12 rfl hl (by decide) rfl (fun ls hl => ?_)
    refine z_iconst hx hb dX5_addCosts_13 ?_
    refine lv_istore (lv' := [(4, .int (iZ 0)), (3, .int (iZ 1000000)), (0, .ref h_t), (1, .int (iZ x1)), (2, .int (iZ i2))]) hx hb dX5_addCosts_14 hl (by decide) rfl (fun ls hl => ?_)
    refine lv_iload_n hx hb dX5_addCosts_16 rfl (lv_at hl 3 rfl) ?_
    refine lv_istore (lv' := [(5, .int (iZ x1)), (4, .int (iZ 0)), (3, .int (iZ 1000000)), (0, .ref h_t), (1, .int (iZ x1)), (2, .int (iZ i2))]) hx hb dX5_addCosts_17 hl (by decide) rfl (fun ls hl => ?_)
    exact wX5_addCosts_L19 p l e s m args below meth c Q G D cA A h_t h_t_gaps h_t_sums h_t_costs h_t_leasts v_t_ready v_t_frames f_t_gaps x1 N C hK hA hZ r kr (fX5_addCosts_j76 N v_t_frames f_t_gaps x1 rec k) (fun y0 y1 y2 y3 y4 h9 => wX5_addCosts_j76 p l e s m args below meth c Q G D cA A h_t h_t_gaps h_t_sums h_t_costs h_t_leasts v_t_ready v_t_frames f_t_gaps x1 N C hK hA hZ r kr rec k hrec hk y0 y1 y2 y3 y4 h9) N i2 1000000 0 x1 f_t_sums f_t_costs h H locs hP hD hS ls (lv_sub hl [3, 4, 5, 2, 1, 0] rfl)
theorem wX5_addCosts_L2 (p : Program) (l : Launch) (e : Env) (s : State) (m : MethodId) (args : Array Value) (below : List Frame) (meth : Method) (c : Code) (Q : State → Prop) (G : ZG) (D : va_G) (cA : Nat → ClassId) (A : Nat → Prop) (h_t h_t_gaps h_t_sums h_t_costs h_t_leasts : Nat) (v_t_ready : Int) (v_t_frames : Int) (f_t_gaps : Nat → Int) (x1 : Int) (N : Nat) (C : CallFix p m c cX5_addCosts 7 s args vX5_addCosts RX5) (hK : va_K D vwCl (zT cA) s) (hA : ∀ q, s.heap.size ≤ q → A q) (hZ : zSt G A s s.heap) (r : (Nat → Int) × (Nat → Int)) (kr : kX5_addCosts p l e s m args below meth c Q G D cA A h_t h_t_gaps h_t_sums h_t_costs h_t_leasts v_t_ready v_t_frames f_t_gaps x1 N r) (k : (Nat → Int) → (Nat → Int) → Option ((Nat → Int) × (Nat → Int))) (hk : ∀ (f_t_sums : Nat → Int) (f_t_costs : Nat → Int), k f_t_sums f_t_costs = some r → sX5_addCosts_107 p l e s m args below meth c Q G D cA A h_t h_t_gaps h_t_sums h_t_costs h_t_leasts v_t_ready v_t_frames f_t_gaps x1 N f_t_sums f_t_costs) : ∀ (n : Nat) (i2 : Int) (f_t_sums : Nat → Int) (f_t_costs : Nat → Int), fX5_addCosts_L2 N v_t_frames f_t_gaps x1 k n i2 f_t_sums f_t_costs = some r → sX5_addCosts_2 p l e s m args below meth c Q G D cA A h_t h_t_gaps h_t_sums h_t_costs h_t_leasts v_t_ready v_t_frames f_t_gaps x1 N i2 f_t_sums f_t_costs := by
  intro n
  induction n with
  | zero =>
    intro i2 f_t_sums f_t_costs h
    have h : none = some r := h
    cases h
  | succ n ih =>
    intro i2 f_t_sums f_t_costs h
    exact wX5_addCosts_b2 p l e s m args below meth c Q G D cA A h_t h_t_gaps h_t_sums h_t_costs h_t_leasts v_t_ready v_t_frames f_t_gaps x1 N C hK hA hZ r kr (fX5_addCosts_L2 N v_t_frames f_t_gaps x1 k n) k ih hk i2 f_t_sums f_t_costs h
set_option maxHeartbeats 4000000 in
set_option maxRecDepth 100000 in
theorem wX5_addCosts_j107 (p : Program) (l : Launch) (e : Env) (s : State) (m : MethodId) (args : Array Value) (below : List Frame) (meth : Method) (c : Code) (Q : State → Prop) (G : ZG) (D : va_G) (cA : Nat → ClassId) (A : Nat → Prop) (h_t h_t_gaps h_t_sums h_t_costs h_t_leasts : Nat) (v_t_ready : Int) (v_t_frames : Int) (f_t_gaps : Nat → Int) (x1 : Int) (N : Nat) (C : CallFix p m c cX5_addCosts 7 s args vX5_addCosts RX5) (hK : va_K D vwCl (zT cA) s) (hA : ∀ q, s.heap.size ≤ q → A q) (hZ : zSt G A s s.heap) (r : (Nat → Int) × (Nat → Int)) (kr : kX5_addCosts p l e s m args below meth c Q G D cA A h_t h_t_gaps h_t_sums h_t_costs h_t_leasts v_t_ready v_t_frames f_t_gaps x1 N r) (f_t_sums : Nat → Int) (f_t_costs : Nat → Int) (h : fX5_addCosts_j107 N v_t_frames f_t_gaps x1 f_t_sums f_t_costs = some r) : sX5_addCosts_107 p l e s m args below meth c Q G D cA A h_t h_t_gaps h_t_sums h_t_costs h_t_leasts v_t_ready v_t_frames f_t_gaps x1 N f_t_sums f_t_costs := by
  obtain ⟨hx, hb, hml, hown, hts⟩ := id C
  have hq : ∀ w ∈ wAll, w.before args s = true := fun w h => hts w (List.mem_cons_of_mem _ h)
  intro H locs hP hD hS ls hl
  unfold fX5_addCosts_j107 at h
  cases h
  exact kr _ _ _ _ dX5_addCosts_107 hP hD hS
set_option maxHeartbeats 4000000 in
set_option maxRecDepth 100000 in
theorem wX5_addCosts_E (p : Program) (l : Launch) (e : Env) (s : State) (m : MethodId) (args : Array Value) (below : List Frame) (meth : Method) (c : Code) (Q : State → Prop) (G : ZG) (D : va_G) (cA : Nat → ClassId) (A : Nat → Prop) (h_t h_t_gaps h_t_sums h_t_costs h_t_leasts : Nat) (v_t_ready : Int) (v_t_frames : Int) (f_t_gaps : Nat → Int) (x1 : Int) (N : Nat) (C : CallFix p m c cX5_addCosts 7 s args vX5_addCosts RX5) (hK : va_K D vwCl (zT cA) s) (hA : ∀ q, s.heap.size ≤ q → A q) (hZ : zSt G A s s.heap) (r : (Nat → Int) × (Nat → Int)) (kr : kX5_addCosts p l e s m args below meth c Q G D cA A h_t h_t_gaps h_t_sums h_t_costs h_t_leasts v_t_ready v_t_frames f_t_gaps x1 N r) (f_t_sums : Nat → Int) (f_t_costs : Nat → Int) (h : fX5_addCosts N v_t_frames f_t_gaps f_t_sums f_t_costs x1 = some r) (H : Heap) (locs : List Loc) (hP : va_P D vwCl (wX5_addCosts cA h_t h_t_gaps h_t_sums h_t_costs h_t_leasts v_t_ready v_t_frames f_t_gaps f_t_sums f_t_costs) H) (hD : va_D A (wX5_addCosts cA h_t h_t_gaps h_t_sums h_t_costs h_t_leasts v_t_ready v_t_frames f_t_gaps f_t_sums f_t_costs)) (hS : va_S A s.heap H locs) (ls : Array Slot) (hl : lv_has ls 7 [(0, .ref h_t), (1, .int (iZ x1))]) : W p l e rmX5_addCosts s m args below meth c H locs 0 0 Q (F0 m 0 ls []) := by
  obtain ⟨hx, hb, hml, hown, hts⟩ := id C
  have hq : ∀ w ∈ wAll, w.before args s = true := fun w h => hts w (List.mem_cons_of_mem _ h)
  unfold fX5_addCosts at h
  refine lv_iload_n hx hb dX5_addCosts_0 rfl (lv_at hl 1 rfl) ?_
  refine lv_istore_n (lv' := [(2, .int (iZ x1)), (0, .ref h_t), (1, .int (iZ x1))]) hx hb dX5_addCosts_1 rfl hl (by decide) rfl (fun ls hl => ?_)
  exact wX5_addCosts_L2 p l e s m args below meth c Q G D cA A h_t h_t_gaps h_t_sums h_t_costs h_t_leasts v_t_ready v_t_frames f_t_gaps x1 N C hK hA hZ r kr (fX5_addCosts_j107 N v_t_frames f_t_gaps x1) (fun y0 y1 h9 => wX5_addCosts_j107 p l e s m args below meth c Q G D cA A h_t h_t_gaps h_t_sums h_t_costs h_t_leasts v_t_ready v_t_frames f_t_gaps x1 N C hK hA hZ r kr y0 y1 h9) N x1 f_t_sums f_t_costs h H locs hP hD hS ls (lv_sub hl [1, 2, 0] rfl)
set_option maxHeartbeats 4000000 in
set_option maxRecDepth 100000 in
theorem cX5_addCosts_m (l : Launch) (G : ZG) (D : va_G) (cA : Nat → ClassId) (h_t h_t_gaps h_t_sums h_t_costs h_t_leasts : Nat) (v_t_ready : Int) (v_t_frames : Int) (f_t_gaps : Nat → Int) (f_t_sums : Nat → Int) (f_t_costs : Nat → Int) (x1 : Int) (sz N : Nat) {r : (Nat → Int) × (Nat → Int)} (hF : fX5_addCosts N v_t_frames f_t_gaps f_t_sums f_t_costs x1 = some r) : zMv l yX5_addCosts vX5_addCosts rmX5_addCosts G D cA [.ref h_t, .int (iZ x1)] (wX5_addCosts cA h_t h_t_gaps h_t_sums h_t_costs h_t_leasts v_t_ready v_t_frames f_t_gaps f_t_sums f_t_costs) (wX5_addCosts cA h_t h_t_gaps h_t_sums h_t_costs h_t_leasts v_t_ready v_t_frames f_t_gaps r.1 r.2) sz := by
  refine Met.ofW (cc := cX5_addCosts) (maxL := 7) (ret := none) (by decide) rfl ?_
  intro p e s m args below meth c s₁ B hml hv
  obtain ⟨rfl, hsz, hP, hK, hD0, hZ⟩ := hv
  subst hsz
  have hlocks := B.notSynchronized
  have hl := lv_entry ([.ref h_t, .int (iZ x1)]) (n := 7) (Nat.le_of_ble_eq_true rfl)
  rw [lg_entry_eq]
  generalize (lg_sl ([.ref h_t, .int (iZ x1)]) ++ List.replicate (7 - (lg_sl ([.ref h_t, .int (iZ x1)])).length) Slot.unset).toArray = ls at hl ⊢
  exact wX5_addCosts_E p l e s m _ below meth c _ G D cA _ h_t h_t_gaps h_t_sums h_t_costs h_t_leasts v_t_ready v_t_frames f_t_gaps x1 N ⟨B.exec, B.bytes, hml, findClass_of_methodNamed B.named, atoms_spec (ws := vX5_addCosts) B.pre⟩ hK (fun q h => Or.inr h) hZ r (fun pc H locs ls hd hP hD hS => W.vret B.exec B.bytes B.returns (fun t ht hW => ⟨⟨(), rfl, trivial, by rw [ht]; exact hP, va_K.moved hW.alike hK, hD⟩, hS.F ht⟩) hS.2.2 hd) f_t_sums f_t_costs hF s.heap [] hP (hD0.self (sz := s.heap.size)) va_S.rf ls hl

/-! ===== FlickerDesk$Parting.least(II)I ===== -/
abbrev rmX5_least : Room := { frames := 0, cells := 0, slots := 0, locals := 0 }
abbrev wX5_least (cA : Nat → ClassId) (h_t h_t_leasts h_t_sums h_t_gaps h_t_costs : Nat) (v_t_ready : Int) (v_t_frames : Int) (f_t_leasts : Nat → Int) : va_W := [(h_t, .inr (5, [.int (iZ v_t_ready), .int (iZ v_t_frames), .ref h_t_sums, .ref h_t_gaps, .ref h_t_costs, .ref h_t_leasts])), (h_t_leasts, zA (cA 0) 225 f_t_leasts)]
def fX5_least (N : Nat) (f_t_leasts : Nat → Int) (x1 : Int) (x2 : Int) : Option (Int) := (gd ((0 : Int) ≤ (x1 * 25) + x2 ∧ (x1 * 25) + x2 < 225) (some (f_t_leasts ((x1 * 25) + x2).toNat)))
abbrev kX5_least (p : Program) (l : Launch) (e : Env) (s : State) (m : MethodId) (args : Array Value) (below : List Frame) (meth : Method) (c : Code) (Q : State → Prop) (G : ZG) (D : va_G) (cA : Nat → ClassId) (A : Nat → Prop) (h_t h_t_leasts h_t_sums h_t_gaps h_t_costs : Nat) (v_t_ready : Int) (v_t_frames : Int) (f_t_leasts : Nat → Int) (x1 : Int) (x2 : Int) (N : Nat) (r : Int) : Prop := ∀ (pc : Nat) (H : Heap) (locs : List Loc) (ls : Array Slot), decode cX5_least pc = .ok (.ireturn, 1) → va_P D vwCl (wX5_least cA h_t h_t_leasts h_t_sums h_t_gaps h_t_costs v_t_ready v_t_frames f_t_leasts) H → va_D A (wX5_least cA h_t h_t_leasts h_t_sums h_t_gaps h_t_costs v_t_ready v_t_frames f_t_leasts) → va_S A s.heap H locs → W p l e rmX5_least s m args below meth c H locs 0 0 Q (F0 m pc ls [.int (iZ r)])
set_option maxHeartbeats 4000000 in
set_option maxRecDepth 100000 in
theorem wX5_least_E (p : Program) (l : Launch) (e : Env) (s : State) (m : MethodId) (args : Array Value) (below : List Frame) (meth : Method) (c : Code) (Q : State → Prop) (G : ZG) (D : va_G) (cA : Nat → ClassId) (A : Nat → Prop) (h_t h_t_leasts h_t_sums h_t_gaps h_t_costs : Nat) (v_t_ready : Int) (v_t_frames : Int) (f_t_leasts : Nat → Int) (x1 : Int) (x2 : Int) (N : Nat) (C : CallFix p m c cX5_least 3 s args vX5_least RX5) (hK : va_K D vwCl (zT cA) s) (hA : ∀ q, s.heap.size ≤ q → A q) (hZ : zSt G A s s.heap) (r : Int) (kr : kX5_least p l e s m args below meth c Q G D cA A h_t h_t_leasts h_t_sums h_t_gaps h_t_costs v_t_ready v_t_frames f_t_leasts x1 x2 N r) (h : fX5_least N f_t_leasts x1 x2 = some r) (H : Heap) (locs : List Loc) (hP : va_P D vwCl (wX5_least cA h_t h_t_leasts h_t_sums h_t_gaps h_t_costs v_t_ready v_t_frames f_t_leasts) H) (hD : va_D A (wX5_least cA h_t h_t_leasts h_t_sums h_t_gaps h_t_costs v_t_ready v_t_frames f_t_leasts)) (hS : va_S A s.heap H locs) (ls : Array Slot) (hl : lv_has ls 3 [(0, .ref h_t), (1, .int (iZ x1)), (2, .int (iZ x2))]) : W p l e rmX5_least s m args below meth c H locs 0 0 Q (F0 m 0 ls []) := by
  obtain ⟨hx, hb, hml, hown, hts⟩ := id C
  have hq : ∀ w ∈ wAll, w.before args s = true := fun w h => hts w (List.mem_cons_of_mem _ h)
  unfold fX5_least at h
  refine lv_aload_n hx hb dX5_least_0 rfl (lv_at hl 0 rfl) ?_
  refine va_get (D := D) (ci := 5) (v := .ref h_t_leasts) (C := RX5) (T := TX5) (N := 6) hx hb hq in_wsX50 hown hK hP 0 rfl rfl 5 (by decide) (hq _ q305) (fun _ h9 => h9) rfl dX5_least_1 ?_
  refine lv_iload_n hx hb dX5_least_4 rfl (lv_at hl 1 rfl) ?_
  refine z_bipush hx hb dX5_least_5 (by decide) ?_
  refine z_imul hx hb dX5_least_7 ?_
  refine lv_iload_n hx hb dX5_least_8 rfl (lv_at hl 2 rfl) ?_
  refine z_iadd hx hb dX5_least_9 ?_
  obtain ⟨g1, h⟩ := gd_some h
  refine z_iald hx hb hK hP 1 0 rfl rfl (Nat.le_of_ble_eq_true rfl) g1 dX5_least_10 ?_
  cases h
  exact kr _ _ _ _ dX5_least_11 hP hD hS
set_option maxHeartbeats 4000000 in
set_option maxRecDepth 100000 in
theorem cX5_least_m (l : Launch) (G : ZG) (D : va_G) (cA : Nat → ClassId) (h_t h_t_leasts h_t_sums h_t_gaps h_t_costs : Nat) (v_t_ready : Int) (v_t_frames : Int) (f_t_leasts : Nat → Int) (x1 : Int) (x2 : Int) (sz N : Nat) {r : Int} (hF : fX5_least N f_t_leasts x1 x2 = some r) : zMi l yX5_least vX5_least rmX5_least G D cA [.ref h_t, .int (iZ x1), .int (iZ x2)] (wX5_least cA h_t h_t_leasts h_t_sums h_t_gaps h_t_costs v_t_ready v_t_frames f_t_leasts) (wX5_least cA h_t h_t_leasts h_t_sums h_t_gaps h_t_costs v_t_ready v_t_frames f_t_leasts) r sz := by
  refine Met.ofW (cc := cX5_least) (maxL := 3) (ret := (some .int)) (by decide) rfl ?_
  intro p e s m args below meth c s₁ B hml hv
  obtain ⟨rfl, hsz, hP, hK, hD0, hZ⟩ := hv
  subst hsz
  have hlocks := B.notSynchronized
  have hl := lv_entry ([.ref h_t, .int (iZ x1), .int (iZ x2)]) (n := 3) (Nat.le_of_ble_eq_true rfl)
  rw [lg_entry_eq]
  generalize (lg_sl ([.ref h_t, .int (iZ x1), .int (iZ x2)]) ++ List.replicate (3 - (lg_sl ([.ref h_t, .int (iZ x1), .int (iZ x2)])).length) Slot.unset).toArray = ls at hl ⊢
  exact wX5_least_E p l e s m _ below meth c _ G D cA _ h_t h_t_leasts h_t_sums h_t_gaps h_t_costs v_t_ready v_t_frames f_t_leasts x1 x2 N ⟨B.exec, B.bytes, hml, findClass_of_methodNamed B.named, atoms_spec (ws := vX5_least) B.pre⟩ hK (fun q h => Or.inr h) hZ r (fun pc H locs ls hd hP hD hS => W.iret B.exec B.bytes B.returns (fun t ht hW => ⟨⟨_, (), rfl, rfl, by rw [ht]; exact hP, va_K.moved hW.alike hK, hD⟩, hS.F ht⟩) hS.2.2 hd) hF s.heap [] hP (hD0.self (sz := s.heap.size)) va_S.rf ls hl

/-! ===== FlickerDesk$Parting.costBy(III)I ===== -/
abbrev rmX5_costBy : Room := { frames := 1, cells := 0, slots := 0, locals := 22 }
abbrev wX5_costBy (cA : Nat → ClassId) (h_t h_t_costs h_t_leasts h_t_sums h_t_gaps : Nat) (v_t_ready : Int) (v_t_frames : Int) (f_t_costs : Nat → Int) (f_t_leasts : Nat → Int) : va_W := [(h_t, .inr (5, [.int (iZ v_t_ready), .int (iZ v_t_frames), .ref h_t_sums, .ref h_t_gaps, .ref h_t_costs, .ref h_t_leasts])), (h_t_costs, zA (cA 0) 576 f_t_costs), (h_t_leasts, zA (cA 0) 225 f_t_leasts)]
def fX5_costBy (N : Nat) (f_t_costs : Nat → Int) (f_t_leasts : Nat → Int) (x1 : Int) (x2 : Int) (x3 : Int) : Option (Int) := (gd ((0 : Int) ≤ ((x2 * 24) + x3) - 1 ∧ ((x2 * 24) + x3) - 1 < 576) ((fX5_least N f_t_leasts (x1 - 1) x3).bind fun r2 => (some ((f_t_costs (((x2 * 24) + x3) - 1).toNat) + r2))))
abbrev kX5_costBy (p : Program) (l : Launch) (e : Env) (s : State) (m : MethodId) (args : Array Value) (below : List Frame) (meth : Method) (c : Code) (Q : State → Prop) (G : ZG) (D : va_G) (cA : Nat → ClassId) (A : Nat → Prop) (h_t h_t_costs h_t_leasts h_t_sums h_t_gaps : Nat) (v_t_ready : Int) (v_t_frames : Int) (f_t_costs : Nat → Int) (f_t_leasts : Nat → Int) (x1 : Int) (x2 : Int) (x3 : Int) (N : Nat) (r : Int) : Prop := ∀ (pc : Nat) (H : Heap) (locs : List Loc) (ls : Array Slot), decode cX5_costBy pc = .ok (.ireturn, 1) → va_P D vwCl (wX5_costBy cA h_t h_t_costs h_t_leasts h_t_sums h_t_gaps v_t_ready v_t_frames f_t_costs f_t_leasts) H → va_D A (wX5_costBy cA h_t h_t_costs h_t_leasts h_t_sums h_t_gaps v_t_ready v_t_frames f_t_costs f_t_leasts) → va_S A s.heap H locs → W p l e rmX5_costBy s m args below meth c H locs 0 0 Q (F0 m pc ls [.int (iZ r)])
set_option maxHeartbeats 4000000 in
set_option maxRecDepth 100000 in
theorem wX5_costBy_E (p : Program) (l : Launch) (e : Env) (s : State) (m : MethodId) (args : Array Value) (below : List Frame) (meth : Method) (c : Code) (Q : State → Prop) (G : ZG) (D : va_G) (cA : Nat → ClassId) (A : Nat → Prop) (h_t h_t_costs h_t_leasts h_t_sums h_t_gaps : Nat) (v_t_ready : Int) (v_t_frames : Int) (f_t_costs : Nat → Int) (f_t_leasts : Nat → Int) (x1 : Int) (x2 : Int) (x3 : Int) (N : Nat) (C : CallFix p m c cX5_costBy 4 s args vX5_costBy RX5) (hK : va_K D vwCl (zT cA) s) (hA : ∀ q, s.heap.size ≤ q → A q) (hZ : zSt G A s s.heap) (r : Int) (kr : kX5_costBy p l e s m args below meth c Q G D cA A h_t h_t_costs h_t_leasts h_t_sums h_t_gaps v_t_ready v_t_frames f_t_costs f_t_leasts x1 x2 x3 N r) (h : fX5_costBy N f_t_costs f_t_leasts x1 x2 x3 = some r) (H : Heap) (locs : List Loc) (hP : va_P D vwCl (wX5_costBy cA h_t h_t_costs h_t_leasts h_t_sums h_t_gaps v_t_ready v_t_frames f_t_costs f_t_leasts) H) (hD : va_D A (wX5_costBy cA h_t h_t_costs h_t_leasts h_t_sums h_t_gaps v_t_ready v_t_frames f_t_costs f_t_leasts)) (hS : va_S A s.heap H locs) (ls : Array Slot) (hl : lv_has ls 4 [(0, .ref h_t), (1, .int (iZ x1)), (2, .int (iZ x2)), (3, .int (iZ x3))]) : W p l e rmX5_costBy s m args below meth c H locs 0 0 Q (F0 m 0 ls []) := by
  obtain ⟨hx, hb, hml, hown, hts⟩ := id C
  have hq : ∀ w ∈ wAll, w.before args s = true := fun w h => hts w (List.mem_cons_of_mem _ h)
  unfold fX5_costBy at h
  refine lv_aload_n hx hb dX5_costBy_0 rfl (lv_at hl 0 rfl) ?_
  refine va_get (D := D) (ci := 5) (v := .ref h_t_costs) (C := RX5) (T := TX5) (N := 6) hx hb hq in_wsX50 hown hK hP 0 rfl rfl 4 (by decide) (hq _ q304) (fun _ h9 => h9) rfl dX5_costBy_1 ?_
  refine lv_iload_n hx hb dX5_costBy_4 rfl (lv_at hl 2 rfl) ?_
  refine z_bipush hx hb dX5_costBy_5 (by decide) ?_
  refine z_imul hx hb dX5_costBy_7 ?_
  refine lv_iload_n hx hb dX5_costBy_8 rfl (lv_at hl 3 rfl) ?_
  refine z_iadd hx hb dX5_costBy_9 ?_
  refine z_iconst hx hb dX5_costBy_10 ?_
  refine z_isub hx hb dX5_costBy_11 ?_
  obtain ⟨g1, h⟩ := gd_some h
  refine z_iald hx hb hK hP 1 0 rfl rfl (Nat.le_of_ble_eq_true rfl) g1 dX5_costBy_12 ?_
  refine lv_aload_n hx hb dX5_costBy_13 rfl (lv_at hl 0 rfl) ?_
  refine lv_iload_n hx hb dX5_costBy_14 rfl (lv_at hl 1 rfl) ?_
  refine z_iconst hx hb dX5_costBy_15 ?_
  refine z_isub hx hb dX5_costBy_16 ?_
  refine lv_iload_n hx hb dX5_costBy_17 rfl (lv_at hl 3 rfl) ?_
  obtain ⟨r2, e2, h⟩ := bd_some h
  refine z_callVi (G := G) (D := D) (cA := cA) (wc := (wX5_least cA h_t h_t_leasts h_t_sums h_t_gaps h_t_costs v_t_ready v_t_frames f_t_leasts)) (wr := [(h_t_costs, zA (cA 0) 576 f_t_costs)]) (w1 := (wX5_least cA h_t h_t_leasts h_t_sums h_t_gaps h_t_costs v_t_ready v_t_frames f_t_leasts)) (ws' := (wX5_costBy cA h_t h_t_costs h_t_leasts h_t_sums h_t_gaps v_t_ready v_t_frames f_t_costs f_t_leasts)) (r := r2) (As := [.int (iZ (x1 - 1)), .int (iZ x3)]) C hK hA hZ hP hD hS [0, 2] [1] [1, 0, 2] rfl rfl rfl (by decide) (cX5_least_m l G D cA h_t h_t_leasts h_t_sums h_t_gaps h_t_costs v_t_ready v_t_frames f_t_leasts (x1 - 1) x3 H.size N e2) (cwV 2 hts (gAllV q314 q315 q316 q317 q312) rfl rfl rfl (by decide +kernel) ⟨Nat.le_of_ble_eq_true rfl, Nat.le_of_ble_eq_true rfl⟩) 0 5 rfl rfl rfl rfl hl.1 rfl (Nat.le_of_ble_eq_true rfl) ⟨Nat.zero_le _, Nat.zero_le _⟩ dX5_costBy_18 (fun H locs hP hD hS => ?_)
  refine z_iadd hx hb dX5_costBy_21 ?_
  cases h
  exact kr _ _ _ _ dX5_costBy_22 hP hD hS
set_option maxHeartbeats 4000000 in
set_option maxRecDepth 100000 in
theorem cX5_costBy_m (l : Launch) (G : ZG) (D : va_G) (cA : Nat → ClassId) (h_t h_t_costs h_t_leasts h_t_sums h_t_gaps : Nat) (v_t_ready : Int) (v_t_frames : Int) (f_t_costs : Nat → Int) (f_t_leasts : Nat → Int) (x1 : Int) (x2 : Int) (x3 : Int) (sz N : Nat) {r : Int} (hF : fX5_costBy N f_t_costs f_t_leasts x1 x2 x3 = some r) : zMi l yX5_costBy vX5_costBy rmX5_costBy G D cA [.ref h_t, .int (iZ x1), .int (iZ x2), .int (iZ x3)] (wX5_costBy cA h_t h_t_costs h_t_leasts h_t_sums h_t_gaps v_t_ready v_t_frames f_t_costs f_t_leasts) (wX5_costBy cA h_t h_t_costs h_t_leasts h_t_sums h_t_gaps v_t_ready v_t_frames f_t_costs f_t_leasts) r sz := by
  refine Met.ofW (cc := cX5_costBy) (maxL := 4) (ret := (some .int)) (by decide) rfl ?_
  intro p e s m args below meth c s₁ B hml hv
  obtain ⟨rfl, hsz, hP, hK, hD0, hZ⟩ := hv
  subst hsz
  have hlocks := B.notSynchronized
  have hl := lv_entry ([.ref h_t, .int (iZ x1), .int (iZ x2), .int (iZ x3)]) (n := 4) (Nat.le_of_ble_eq_true rfl)
  rw [lg_entry_eq]
  generalize (lg_sl ([.ref h_t, .int (iZ x1), .int (iZ x2), .int (iZ x3)]) ++ List.replicate (4 - (lg_sl ([.ref h_t, .int (iZ x1), .int (iZ x2), .int (iZ x3)])).length) Slot.unset).toArray = ls at hl ⊢
  exact wX5_costBy_E p l e s m _ below meth c _ G D cA _ h_t h_t_costs h_t_leasts h_t_sums h_t_gaps v_t_ready v_t_frames f_t_costs f_t_leasts x1 x2 x3 N ⟨B.exec, B.bytes, hml, findClass_of_methodNamed B.named, atoms_spec (ws := vX5_costBy) B.pre⟩ hK (fun q h => Or.inr h) hZ r (fun pc H locs ls hd hP hD hS => W.iret B.exec B.bytes B.returns (fun t ht hW => ⟨⟨_, (), rfl, rfl, by rw [ht]; exact hP, va_K.moved hW.alike hK, hD⟩, hS.F ht⟩) hS.2.2 hd) hF s.heap [] hP (hD0.self (sz := s.heap.size)) va_S.rf ls hl

/-! ===== FlickerDesk$Parting.leastOf(II)I ===== -/
abbrev rmX5_leastOf : Room := { frames := 2, cells := 0, slots := 0, locals := 45 }
abbrev wX5_leastOf (cA : Nat → ClassId) (h_t h_t_costs h_t_leasts h_t_sums h_t_gaps : Nat) (v_t_ready : Int) (v_t_frames : Int) (f_t_costs : Nat → Int) (f_t_leasts : Nat → Int) : va_W := [(h_t, .inr (5, [.int (iZ v_t_ready), .int (iZ v_t_frames), .ref h_t_sums, .ref h_t_gaps, .ref h_t_costs, .ref h_t_leasts])), (h_t_costs, zA (cA 0) 576 f_t_costs), (h_t_leasts, zA (cA 0) 225 f_t_leasts)]
def fX5_leastOf_b8 (N : Nat) (v_t_frames : Int) (f_t_costs : Nat → Int) (f_t_leasts : Nat → Int) (x1 : Int) (x2 : Int) (rec : Int → Int → Option (Int)) (k : Int → Option (Int)) (i3 : Int) (i4 : Int) : Option (Int) := (if iZ v_t_frames < iZ i4 then (k i3) else ((fX5_costBy N f_t_costs f_t_leasts x1 x2 i4).bind fun r2 => (rec (mnZ i3 r2) (i4 + 1))))
def fX5_leastOf_L8 (N : Nat) (v_t_frames : Int) (f_t_costs : Nat → Int) (f_t_leasts : Nat → Int) (x1 : Int) (x2 : Int) (k : Int → Option (Int)) : Nat → Int → Int → Option (Int)
  | 0 => fun _ _ => none
  | n + 1 => fX5_leastOf_b8 N v_t_frames f_t_costs f_t_leasts x1 x2 (fX5_leastOf_L8 N v_t_frames f_t_costs f_t_leasts x1 x2 k n) k
def fX5_leastOf_j36 (N : Nat) (v_t_frames : Int) (f_t_costs : Nat → Int) (f_t_leasts : Nat → Int) (x1 : Int) (x2 : Int) (i3 : Int) : Option (Int) := (some i3)
def fX5_leastOf (N : Nat) (v_t_frames : Int) (f_t_costs : Nat → Int) (f_t_leasts : Nat → Int) (x1 : Int) (x2 : Int) : Option (Int) := (fX5_leastOf_L8 N v_t_frames f_t_costs f_t_leasts x1 x2 (fX5_leastOf_j36 N v_t_frames f_t_costs f_t_leasts x1 x2) N 1000000 (x2 + 1))
abbrev kX5_leastOf (p : Program) (l : Launch) (e : Env) (s : State) (m : MethodId) (args : Array Value) (below : List Frame) (meth : Method) (c : Code) (Q : State → Prop) (G : ZG) (D : va_G) (cA : Nat → ClassId) (A : Nat → Prop) (h_t h_t_costs h_t_leasts h_t_sums h_t_gaps : Nat) (v_t_ready : Int) (v_t_frames : Int) (f_t_costs : Nat → Int) (f_t_leasts : Nat → Int) (x1 : Int) (x2 : Int) (N : Nat) (r : Int) : Prop := ∀ (pc : Nat) (H : Heap) (locs : List Loc) (ls : Array Slot), decode cX5_leastOf pc = .ok (.ireturn, 1) → va_P D vwCl (wX5_leastOf cA h_t h_t_costs h_t_leasts h_t_sums h_t_gaps v_t_ready v_t_frames f_t_costs f_t_leasts) H → va_D A (wX5_leastOf cA h_t h_t_costs h_t_leasts h_t_sums h_t_gaps v_t_ready v_t_frames f_t_costs f_t_leasts) → va_S A s.heap H locs → W p l e rmX5_leastOf s m args below meth c H locs 0 0 Q (F0 m pc ls [.int (iZ r)])
abbrev sX5_leastOf_36 (p : Program) (l : Launch) (e : Env) (s : State) (m : MethodId) (args : Array Value) (below : List Frame) (meth : Method) (c : Code) (Q : State → Prop) (G : ZG) (D : va_G) (cA : Nat → ClassId) (A : Nat → Prop) (h_t h_t_costs h_t_leasts h_t_sums h_t_gaps : Nat) (v_t_ready : Int) (v_t_frames : Int) (f_t_costs : Nat → Int) (f_t_leasts : Nat → Int) (x1 : Int) (x2 : Int) (N : Nat) (i3 : Int) : Prop := ∀ (H : Heap) (locs : List Loc), va_P D vwCl (wX5_leastOf cA h_t h_t_costs h_t_leasts h_t_sums h_t_gaps v_t_ready v_t_frames f_t_costs f_t_leasts) H → va_D A (wX5_leastOf cA h_t h_t_costs h_t_leasts h_t_sums h_t_gaps v_t_ready v_t_frames f_t_costs f_t_leasts) → va_S A s.heap H locs → ∀ ls : Array Slot, lv_has ls 5 [(3, .int (iZ i3))] → W p l e rmX5_leastOf s m args below meth c H locs 0 0 Q (F0 m 36 ls [])
abbrev sX5_leastOf_8 (p : Program) (l : Launch) (e : Env) (s : State) (m : MethodId) (args : Array Value) (below : List Frame) (meth : Method) (c : Code) (Q : State → Prop) (G : ZG) (D : va_G) (cA : Nat → ClassId) (A : Nat → Prop) (h_t h_t_costs h_t_leasts h_t_sums h_t_gaps : Nat) (v_t_ready : Int) (v_t_frames : Int) (f_t_costs : Nat → Int) (f_t_leasts : Nat → Int) (x1 : Int) (x2 : Int) (N : Nat) (i3 : Int) (i4 : Int) : Prop := ∀ (H : Heap) (locs : List Loc), va_P D vwCl (wX5_leastOf cA h_t h_t_costs h_t_leasts h_t_sums h_t_gaps v_t_ready v_t_frames f_t_costs f_t_leasts) H → va_D A (wX5_leastOf cA h_t h_t_costs h_t_leasts h_t_sums h_t_gaps v_t_ready v_t_frames f_t_costs f_t_leasts) → va_S A s.heap H locs → ∀ ls : Array Slot, lv_has ls 5 [(0, .ref h_t), (1, .int (iZ x1)), (2, .int (iZ x2)), (3, .int (iZ i3)), (4, .int (iZ i4))] → W p l e rmX5_leastOf s m args below meth c H locs 0 0 Q (F0 m 8 ls [])
set_option maxHeartbeats 4000000 in
set_option maxRecDepth 100000 in
theorem wX5_leastOf_b8 (p : Program) (l : Launch) (e : Env) (s : State) (m : MethodId) (args : Array Value) (below : List Frame) (meth : Method) (c : Code) (Q : State → Prop) (G : ZG) (D : va_G) (cA : Nat → ClassId) (A : Nat → Prop) (h_t h_t_costs h_t_leasts h_t_sums h_t_gaps : Nat) (v_t_ready : Int) (v_t_frames : Int) (f_t_costs : Nat → Int) (f_t_leasts : Nat → Int) (x1 : Int) (x2 : Int) (N : Nat) (C : CallFix p m c cX5_leastOf 5 s args vX5_leastOf RX5) (hK : va_K D vwCl (zT cA) s) (hA : ∀ q, s.heap.size ≤ q → A q) (hZ : zSt G A s s.heap) (r : Int) (kr : kX5_leastOf p l e s m args below meth c Q G D cA A h_t h_t_costs h_t_leasts h_t_sums h_t_gaps v_t_ready v_t_frames f_t_costs f_t_leasts x1 x2 N r) (rec : Int → Int → Option (Int)) (k : Int → Option (Int)) (hrec : ∀ (i3 : Int) (i4 : Int), rec i3 i4 = some r → sX5_leastOf_8 p l e s m args below meth c Q G D cA A h_t h_t_costs h_t_leasts h_t_sums h_t_gaps v_t_ready v_t_frames f_t_costs f_t_leasts x1 x2 N i3 i4) (hk : ∀ (i3 : Int), k i3 = some r → sX5_leastOf_36 p l e s m args below meth c Q G D cA A h_t h_t_costs h_t_leasts h_t_sums h_t_gaps v_t_ready v_t_frames f_t_costs f_t_leasts x1 x2 N i3) (i3 : Int) (i4 : Int) (h : fX5_leastOf_b8 N v_t_frames f_t_costs f_t_leasts x1 x2 rec k i3 i4 = some r) : sX5_leastOf_8 p l e s m args below meth c Q G D cA A h_t h_t_costs h_t_leasts h_t_sums h_t_gaps v_t_ready v_t_frames f_t_costs f_t_leasts x1 x2 N i3 i4 := by
  obtain ⟨hx, hb, hml, hown, hts⟩ := id C
  have hq : ∀ w ∈ wAll, w.before args s = true := fun w h => hts w (List.mem_cons_of_mem _ h)
  intro H locs hP hD hS ls hl
  unfold fX5_leastOf_b8 at h
  refine lv_iload hx hb dX5_leastOf_8 (lv_at hl 4 rfl) ?_
  refine lv_aload_n hx hb dX5_leastOf_10 rfl (lv_at hl 0 rfl) ?_
  refine va_get (D := D) (ci := 5) (v := .int (iZ v_t_frames)) (C := RX5) (T := TX5) (N := 6) hx hb hq in_wsX50 hown hK hP 0 rfl rfl 1 (by decide) (hq _ q307) (fun _ h9 => h9) rfl dX5_leastOf_11 ?_
  refine z_icmp_gt (tgt := 36) hx hb dX5_leastOf_14 (by decide) (fun c1 => ?_) (fun c1 => ?_)
  · rw [if_pos c1] at h
    exact hk i3 h H locs hP hD hS ls (lv_sub hl [3] rfl)
  · rw [if_neg c1] at h
    refine lv_iload_n hx hb dX5_leastOf_17 rfl (lv_at hl 3 rfl) ?_
    refine lv_aload_n hx hb dX5_leastOf_18 rfl (lv_at hl 0 rfl) ?_
    refine lv_iload_n hx hb dX5_leastOf_19 rfl (lv_at hl 1 rfl) ?_
    refine lv_iload_n hx hb dX5_leastOf_20 rfl (lv_at hl 2 rfl) ?_
    refine lv_iload hx hb dX5_leastOf_21 (lv_at hl 4 rfl) ?_
    obtain ⟨r2, e2, h⟩ := bd_some h
    refine z_callVi (G := G) (D := D) (cA := cA) (wc := (wX5_costBy cA h_t h_t_costs h_t_leasts h_t_sums h_t_gaps v_t_ready v_t_frames f_t_costs f_t_leasts)) (wr := []) (w1 := (wX5_costBy cA h_t h_t_costs h_t_leasts h_t_sums h_t_gaps v_t_ready v_t_frames f_t_costs f_t_leasts)) (ws' := (wX5_leastOf cA h_t h_t_costs h_t_leasts h_t_sums h_t_gaps v_t_ready v_t_frames f_t_costs f_t_leasts)) (r := r2) (As := [.int (iZ x1), .int (iZ x2), .int (iZ i4)]) C hK hA hZ hP hD hS [0, 1, 2] [] [0, 1, 2] rfl rfl rfl (by decide) (cX5_costBy_m l G D cA h_t h_t_costs h_t_leasts h_t_sums h_t_gaps v_t_ready v_t_frames f_t_costs f_t_leasts x1 x2 i4 H.size N e2) (cwV 3 hts (gAllV q319 q320 q321 q317 q313) rfl rfl rfl (by decide +kernel) ⟨Nat.le_of_ble_eq_true rfl, Nat.le_of_ble_eq_true rfl⟩) 0 5 rfl rfl rfl rfl hl.1 rfl (Nat.le_of_ble_eq_true rfl) ⟨Nat.zero_le _, Nat.zero_le _⟩ dX5_leastOf_23 (fun H locs hP hD hS => ?_)
    refine z_mmin hx hb (by rw [hml]; exact hl.1.symm) hown (hq _ q311) (hq _ q141) (hq _ q133) (hq _ q142) (Nat.le_of_ble_eq_true rfl) (Nat.le_of_ble_eq_true rfl) (Nat.zero_le _) (Nat.zero_le _) dX5_leastOf_26 ?_
    refine lv_istore_n (lv' := [(3, .int (iZ (mnZ i3 r2))), (0, .ref h_t), (1, .int (iZ x1)), (2, .int (iZ x2)), (4, .int (iZ i4))]) hx hb dX5_leastOf_29 rfl hl (by decide) rfl (fun ls hl => ?_)
    refine z_iinc (lv' := [(4, .int (iZ (i4 + 1))), (3, .int (iZ (mnZ i3 r2))), (0, .ref h_t), (1, .int (iZ x1)), (2, .int (iZ x2))]) hx hb dX5_leastOf_30 hl (k := 4) rfl (by decide) rfl (fun ls hl => ?_)
    refine lv_goto (tgt := 8) hx hb dX5_leastOf_33 (by decide) ?_
    exact hrec (mnZ i3 r2) (i4 + 1) h H locs hP hD hS ls (lv_sub hl [2, 3, 4, 1, 0] rfl)
theorem wX5_leastOf_L8 (p : Program) (l : Launch) (e : Env) (s : State) (m : MethodId) (args : Array Value) (below : List Frame) (meth : Method) (c : Code) (Q : State → Prop) (G : ZG) (D : va_G) (cA : Nat → ClassId) (A : Nat → Prop) (h_t h_t_costs h_t_leasts h_t_sums h_t_gaps : Nat) (v_t_ready : Int) (v_t_frames : Int) (f_t_costs : Nat → Int) (f_t_leasts : Nat → Int) (x1 : Int) (x2 : Int) (N : Nat) (C : CallFix p m c cX5_leastOf 5 s args vX5_leastOf RX5) (hK : va_K D vwCl (zT cA) s) (hA : ∀ q, s.heap.size ≤ q → A q) (hZ : zSt G A s s.heap) (r : Int) (kr : kX5_leastOf p l e s m args below meth c Q G D cA A h_t h_t_costs h_t_leasts h_t_sums h_t_gaps v_t_ready v_t_frames f_t_costs f_t_leasts x1 x2 N r) (k : Int → Option (Int)) (hk : ∀ (i3 : Int), k i3 = some r → sX5_leastOf_36 p l e s m args below meth c Q G D cA A h_t h_t_costs h_t_leasts h_t_sums h_t_gaps v_t_ready v_t_frames f_t_costs f_t_leasts x1 x2 N i3) : ∀ (n : Nat) (i3 : Int) (i4 : Int), fX5_leastOf_L8 N v_t_frames f_t_costs f_t_leasts x1 x2 k n i3 i4 = some r → sX5_leastOf_8 p l e s m args below meth c Q G D cA A h_t h_t_costs h_t_leasts h_t_sums h_t_gaps v_t_ready v_t_frames f_t_costs f_t_leasts x1 x2 N i3 i4 := by
  intro n
  induction n with
  | zero =>
    intro i3 i4 h
    have h : none = some r := h
    cases h
  | succ n ih =>
    intro i3 i4 h
    exact wX5_leastOf_b8 p l e s m args below meth c Q G D cA A h_t h_t_costs h_t_leasts h_t_sums h_t_gaps v_t_ready v_t_frames f_t_costs f_t_leasts x1 x2 N C hK hA hZ r kr (fX5_leastOf_L8 N v_t_frames f_t_costs f_t_leasts x1 x2 k n) k ih hk i3 i4 h
set_option maxHeartbeats 4000000 in
set_option maxRecDepth 100000 in
theorem wX5_leastOf_j36 (p : Program) (l : Launch) (e : Env) (s : State) (m : MethodId) (args : Array Value) (below : List Frame) (meth : Method) (c : Code) (Q : State → Prop) (G : ZG) (D : va_G) (cA : Nat → ClassId) (A : Nat → Prop) (h_t h_t_costs h_t_leasts h_t_sums h_t_gaps : Nat) (v_t_ready : Int) (v_t_frames : Int) (f_t_costs : Nat → Int) (f_t_leasts : Nat → Int) (x1 : Int) (x2 : Int) (N : Nat) (C : CallFix p m c cX5_leastOf 5 s args vX5_leastOf RX5) (hK : va_K D vwCl (zT cA) s) (hA : ∀ q, s.heap.size ≤ q → A q) (hZ : zSt G A s s.heap) (r : Int) (kr : kX5_leastOf p l e s m args below meth c Q G D cA A h_t h_t_costs h_t_leasts h_t_sums h_t_gaps v_t_ready v_t_frames f_t_costs f_t_leasts x1 x2 N r) (i3 : Int) (h : fX5_leastOf_j36 N v_t_frames f_t_costs f_t_leasts x1 x2 i3 = some r) : sX5_leastOf_36 p l e s m args below meth c Q G D cA A h_t h_t_costs h_t_leasts h_t_sums h_t_gaps v_t_ready v_t_frames f_t_costs f_t_leasts x1 x2 N i3 := by
  obtain ⟨hx, hb, hml, hown, hts⟩ := id C
  have hq : ∀ w ∈ wAll, w.before args s = true := fun w h => hts w (List.mem_cons_of_mem _ h)
  intro H locs hP hD hS ls hl
  unfold fX5_leastOf_j36 at h
  refine lv_iload_n hx hb dX5_leastOf_36 rfl (lv_at hl 0 rfl) ?_
  cases h
  exact kr _ _ _ _ dX5_leastOf_37 hP hD hS
set_option maxHeartbeats 4000000 in
set_option maxRecDepth 100000 in
theorem wX5_leastOf_E (p : Program) (l : Launch) (e : Env) (s : State) (m : MethodId) (args : Array Value) (below : List Frame) (meth : Method) (c : Code) (Q : State → Prop) (G : ZG) (D : va_G) (cA : Nat → ClassId) (A : Nat → Prop) (h_t h_t_costs h_t_leasts h_t_sums h_t_gaps : Nat) (v_t_ready : Int) (v_t_frames : Int) (f_t_costs : Nat → Int) (f_t_leasts : Nat → Int) (x1 : Int) (x2 : Int) (N : Nat) (C : CallFix p m c cX5_leastOf 5 s args vX5_leastOf RX5) (hK : va_K D vwCl (zT cA) s) (hA : ∀ q, s.heap.size ≤ q → A q) (hZ : zSt G A s s.heap) (r : Int) (kr : kX5_leastOf p l e s m args below meth c Q G D cA A h_t h_t_costs h_t_leasts h_t_sums h_t_gaps v_t_ready v_t_frames f_t_costs f_t_leasts x1 x2 N r) (h : fX5_leastOf N v_t_frames f_t_costs f_t_leasts x1 x2 = some r) (H : Heap) (locs : List Loc) (hP : va_P D vwCl (wX5_leastOf cA h_t h_t_costs h_t_leasts h_t_sums h_t_gaps v_t_ready v_t_frames f_t_costs f_t_leasts) H) (hD : va_D A (wX5_leastOf cA h_t h_t_costs h_t_leasts h_t_sums h_t_gaps v_t_ready v_t_frames f_t_costs f_t_leasts)) (hS : va_S A s.heap H locs) (ls : Array Slot) (hl : lv_has ls 5 [(0, .ref h_t), (1, .int (iZ x1)), (2, .int (iZ x2))]) : W p l e rmX5_leastOf s m args below meth c H locs 0 0 Q (F0 m 0 ls []) := by
  obtain ⟨hx, hb, hml, hown, hts⟩ := id C
  have hq : ∀ w ∈ wAll, w.before args s = true := fun w h => hts w (List.mem_cons_of_mem _ h)
  unfold fX5_leastOf at h
  refine z_ldc (v := 1000000) (n := 1000000) (by decide) hx hb hown (hq _ q310) dX5_leastOf_0 ?_
  refine lv_istore_n (lv' := [(3, .int (iZ 1000000)), (0, .ref h_t), (1, .int (iZ x1)), (2, .int (iZ x2))]) hx hb dX5_leastOf_2 rfl hl (by decide) rfl (fun ls hl => ?_)
  refine lv_iload_n hx hb dX5_leastOf_3 rfl (lv_at hl 3 rfl) ?_
  refine z_iconst hx hb dX5_leastOf_4 ?_
  refine z_iadd hx hb dX5_leastOf_5 ?_
  refine lv_istore (lv' := [(4, .int (iZ (x2 + 1))), (3, .int (iZ 1000000)), (0, .ref h_t), (1, .int (iZ x1)), (2, .int (iZ x2))]) hx hb dX5_leastOf_6 hl (by decide) rfl (fun ls hl => ?_)
  exact wX5_leastOf_L8 p l e s m args below meth c Q G D cA A h_t h_t_costs h_t_leasts h_t_sums h_t_gaps v_t_ready v_t_frames f_t_costs f_t_leasts x1 x2 N C hK hA hZ r kr (fX5_leastOf_j36 N v_t_frames f_t_costs f_t_leasts x1 x2) (fun y0 h9 => wX5_leastOf_j36 p l e s m args below meth c Q G D cA A h_t h_t_costs h_t_leasts h_t_sums h_t_gaps v_t_ready v_t_frames f_t_costs f_t_leasts x1 x2 N C hK hA hZ r kr y0 h9) N 1000000 (x2 + 1) h H locs hP hD hS ls (lv_sub hl [2, 3, 4, 1, 0] rfl)
set_option maxHeartbeats 4000000 in
set_option maxRecDepth 100000 in
theorem cX5_leastOf_m (l : Launch) (G : ZG) (D : va_G) (cA : Nat → ClassId) (h_t h_t_costs h_t_leasts h_t_sums h_t_gaps : Nat) (v_t_ready : Int) (v_t_frames : Int) (f_t_costs : Nat → Int) (f_t_leasts : Nat → Int) (x1 : Int) (x2 : Int) (sz N : Nat) {r : Int} (hF : fX5_leastOf N v_t_frames f_t_costs f_t_leasts x1 x2 = some r) : zMi l yX5_leastOf vX5_leastOf rmX5_leastOf G D cA [.ref h_t, .int (iZ x1), .int (iZ x2)] (wX5_leastOf cA h_t h_t_costs h_t_leasts h_t_sums h_t_gaps v_t_ready v_t_frames f_t_costs f_t_leasts) (wX5_leastOf cA h_t h_t_costs h_t_leasts h_t_sums h_t_gaps v_t_ready v_t_frames f_t_costs f_t_leasts) r sz := by
  refine Met.ofW (cc := cX5_leastOf) (maxL := 5) (ret := (some .int)) (by decide) rfl ?_
  intro p e s m args below meth c s₁ B hml hv
  obtain ⟨rfl, hsz, hP, hK, hD0, hZ⟩ := hv
  subst hsz
  have hlocks := B.notSynchronized
  have hl := lv_entry ([.ref h_t, .int (iZ x1), .int (iZ x2)]) (n := 5) (Nat.le_of_ble_eq_true rfl)
  rw [lg_entry_eq]
  generalize (lg_sl ([.ref h_t, .int (iZ x1), .int (iZ x2)]) ++ List.replicate (5 - (lg_sl ([.ref h_t, .int (iZ x1), .int (iZ x2)])).length) Slot.unset).toArray = ls at hl ⊢
  exact wX5_leastOf_E p l e s m _ below meth c _ G D cA _ h_t h_t_costs h_t_leasts h_t_sums h_t_gaps v_t_ready v_t_frames f_t_costs f_t_leasts x1 x2 N ⟨B.exec, B.bytes, hml, findClass_of_methodNamed B.named, atoms_spec (ws := vX5_leastOf) B.pre⟩ hK (fun q h => Or.inr h) hZ r (fun pc H locs ls hd hP hD hS => W.iret B.exec B.bytes B.returns (fun t ht hW => ⟨⟨_, (), rfl, rfl, by rw [ht]; exact hP, va_K.moved hW.alike hK, hD⟩, hS.F ht⟩) hS.2.2 hd) hF s.heap [] hP (hD0.self (sz := s.heap.size)) va_S.rf ls hl

/-! ===== FlickerDesk$Parting.work(LFlickerDesk$Tally;I)V ===== -/
abbrev rmX5_work : Room := { frames := 3, cells := 0, slots := 0, locals := 69 }
abbrev wX5_work (cA : Nat → ClassId) (h_t h_a1 h_a1_cums h_t_gaps h_t_sums h_t_costs h_t_leasts : Nat) (v_t_ready : Int) (v_t_frames : Int) (f_a1_cums : Nat → Int) (f_t_gaps : Nat → Int) (f_t_sums : Nat → Int) (f_t_costs : Nat → Int) (f_t_leasts : Nat → Int) : va_W := [(h_t, .inr (5, [.int (iZ v_t_ready), .int (iZ v_t_frames), .ref h_t_sums, .ref h_t_gaps, .ref h_t_costs, .ref h_t_leasts])), (h_a1, .inr (9, [.ref h_a1_cums])), (h_a1_cums, zA (cA 0) 384 f_a1_cums), (h_t_gaps, zA (cA 0) 576 f_t_gaps), (h_t_sums, zA (cA 0) 24 f_t_sums), (h_t_costs, zA (cA 0) 576 f_t_costs), (h_t_leasts, zA (cA 0) 225 f_t_leasts)]
def fX5_work_b20 (N : Nat) (f_a1_cums : Nat → Int) (x2 : Int) (rec : Int → Int → Int → (Nat → Int) → (Nat → Int) → (Nat → Int) → (Nat → Int) → Option (Int × Int × (Nat → Int) × (Nat → Int) × (Nat → Int) × (Nat → Int))) (k : Int → Int → (Nat → Int) → (Nat → Int) → (Nat → Int) → (Nat → Int) → Option (Int × Int × (Nat → Int) × (Nat → Int) × (Nat → Int) × (Nat → Int))) (i3 : Int) (v_t_ready : Int) (v_t_frames : Int) (f_t_gaps : Nat → Int) (f_t_sums : Nat → Int) (f_t_costs : Nat → Int) (f_t_leasts : Nat → Int) : Option (Int × Int × (Nat → Int) × (Nat → Int) × (Nat → Int) × (Nat → Int)) := (if iZ i3 < iZ v_t_frames then ((fX5_addCosts N v_t_frames f_t_gaps f_t_sums f_t_costs i3).bind fun r4 => (rec (i3 + 1) v_t_ready v_t_frames f_t_gaps r4.1 r4.2 f_t_leasts)) else (k v_t_ready v_t_frames f_t_gaps f_t_sums f_t_costs f_t_leasts))
def fX5_work_L20 (N : Nat) (f_a1_cums : Nat → Int) (x2 : Int) (k : Int → Int → (Nat → Int) → (Nat → Int) → (Nat → Int) → (Nat → Int) → Option (Int × Int × (Nat → Int) × (Nat → Int) × (Nat → Int) × (Nat → Int))) : Nat → Int → Int → Int → (Nat → Int) → (Nat → Int) → (Nat → Int) → (Nat → Int) → Option (Int × Int × (Nat → Int) × (Nat → Int) × (Nat → Int) × (Nat → Int))
  | 0 => fun _ _ _ _ _ _ _ => none
  | n + 1 => fX5_work_b20 N f_a1_cums x2 (fX5_work_L20 N f_a1_cums x2 k n) k
def fX5_work_b69 (N : Nat) (f_a1_cums : Nat → Int) (x2 : Int) (rec : Int → Int → Int → Int → (Nat → Int) → (Nat → Int) → (Nat → Int) → (Nat → Int) → Option (Int × Int × (Nat → Int) × (Nat → Int) × (Nat → Int) × (Nat → Int))) (k : Int → Int → Int → (Nat → Int) → (Nat → Int) → (Nat → Int) → (Nat → Int) → Option (Int × Int × (Nat → Int) × (Nat → Int) × (Nat → Int) × (Nat → Int))) (i3 : Int) (i4 : Int) (v_t_ready : Int) (v_t_frames : Int) (f_t_gaps : Nat → Int) (f_t_sums : Nat → Int) (f_t_costs : Nat → Int) (f_t_leasts : Nat → Int) : Option (Int × Int × (Nat → Int) × (Nat → Int) × (Nat → Int) × (Nat → Int)) := (if iZ i4 < iZ v_t_frames then ((fX5_leastOf N v_t_frames f_t_costs f_t_leasts i3 i4).bind fun r9 => (gd ((0 : Int) ≤ (i3 * 25) + i4 ∧ (i3 * 25) + i4 < 225) (rec i3 (i4 + 1) v_t_ready v_t_frames f_t_gaps f_t_sums f_t_costs (uZ f_t_leasts ((i3 * 25) + i4).toNat r9)))) else (k i3 v_t_ready v_t_frames f_t_gaps f_t_sums f_t_costs f_t_leasts))
def fX5_work_L69 (N : Nat) (f_a1_cums : Nat → Int) (x2 : Int) (k : Int → Int → Int → (Nat → Int) → (Nat → Int) → (Nat → Int) → (Nat → Int) → Option (Int × Int × (Nat → Int) × (Nat → Int) × (Nat → Int) × (Nat → Int))) : Nat → Int → Int → Int → Int → (Nat → Int) → (Nat → Int) → (Nat → Int) → (Nat → Int) → Option (Int × Int × (Nat → Int) × (Nat → Int) × (Nat → Int) × (Nat → Int))
  | 0 => fun _ _ _ _ _ _ _ _ => none
  | n + 1 => fX5_work_b69 N f_a1_cums x2 (fX5_work_L69 N f_a1_cums x2 k n) k
def fX5_work_j103 (N : Nat) (f_a1_cums : Nat → Int) (x2 : Int) (rec : Int → Int → Int → (Nat → Int) → (Nat → Int) → (Nat → Int) → (Nat → Int) → Option (Int × Int × (Nat → Int) × (Nat → Int) × (Nat → Int) × (Nat → Int))) (k : Int → Int → (Nat → Int) → (Nat → Int) → (Nat → Int) → (Nat → Int) → Option (Int × Int × (Nat → Int) × (Nat → Int) × (Nat → Int) × (Nat → Int))) (i3 : Int) (v_t_ready : Int) (v_t_frames : Int) (f_t_gaps : Nat → Int) (f_t_sums : Nat → Int) (f_t_costs : Nat → Int) (f_t_leasts : Nat → Int) : Option (Int × Int × (Nat → Int) × (Nat → Int) × (Nat → Int) × (Nat → Int)) := (rec (i3 + 1) v_t_ready v_t_frames f_t_gaps f_t_sums f_t_costs f_t_leasts)
def fX5_work_b60 (N : Nat) (f_a1_cums : Nat → Int) (x2 : Int) (rec : Int → Int → Int → (Nat → Int) → (Nat → Int) → (Nat → Int) → (Nat → Int) → Option (Int × Int × (Nat → Int) × (Nat → Int) × (Nat → Int) × (Nat → Int))) (k : Int → Int → (Nat → Int) → (Nat → Int) → (Nat → Int) → (Nat → Int) → Option (Int × Int × (Nat → Int) × (Nat → Int) × (Nat → Int) × (Nat → Int))) (i3 : Int) (v_t_ready : Int) (v_t_frames : Int) (f_t_gaps : Nat → Int) (f_t_sums : Nat → Int) (f_t_costs : Nat → Int) (f_t_leasts : Nat → Int) : Option (Int × Int × (Nat → Int) × (Nat → Int) × (Nat → Int) × (Nat → Int)) := (if iZ 8 < iZ i3 then (k v_t_ready v_t_frames f_t_gaps f_t_sums f_t_costs f_t_leasts) else (fX5_work_L69 N f_a1_cums x2 (fX5_work_j103 N f_a1_cums x2 rec k) N i3 0 v_t_ready v_t_frames f_t_gaps f_t_sums f_t_costs f_t_leasts))
def fX5_work_L60 (N : Nat) (f_a1_cums : Nat → Int) (x2 : Int) (k : Int → Int → (Nat → Int) → (Nat → Int) → (Nat → Int) → (Nat → Int) → Option (Int × Int × (Nat → Int) × (Nat → Int) × (Nat → Int) × (Nat → Int))) : Nat → Int → Int → Int → (Nat → Int) → (Nat → Int) → (Nat → Int) → (Nat → Int) → Option (Int × Int × (Nat → Int) × (Nat → Int) × (Nat → Int) × (Nat → Int))
  | 0 => fun _ _ _ _ _ _ _ => none
  | n + 1 => fX5_work_b60 N f_a1_cums x2 (fX5_work_L60 N f_a1_cums x2 k n) k
def fX5_work_j109 (N : Nat) (f_a1_cums : Nat → Int) (x2 : Int) (v_t_ready : Int) (v_t_frames : Int) (f_t_gaps : Nat → Int) (f_t_sums : Nat → Int) (f_t_costs : Nat → Int) (f_t_leasts : Nat → Int) : Option (Int × Int × (Nat → Int) × (Nat → Int) × (Nat → Int) × (Nat → Int)) := (some ((1, v_t_frames, f_t_gaps, f_t_sums, f_t_costs, f_t_leasts)))
def fX5_work_j39 (N : Nat) (f_a1_cums : Nat → Int) (x2 : Int) (v_t_ready : Int) (v_t_frames : Int) (f_t_gaps : Nat → Int) (f_t_sums : Nat → Int) (f_t_costs : Nat → Int) (f_t_leasts : Nat → Int) : Option (Int × Int × (Nat → Int) × (Nat → Int) × (Nat → Int) × (Nat → Int)) := ((fJ7_fill_53178 N 225 f_t_leasts 1000000).bind fun r5 => (gd ((0 : Int) ≤ v_t_frames ∧ v_t_frames < 225) (fX5_work_L60 N f_a1_cums x2 (fX5_work_j109 N f_a1_cums x2) N 1 v_t_ready v_t_frames f_t_gaps f_t_sums f_t_costs (uZ r5 v_t_frames.toNat 0))))
def fX5_work (N : Nat) (f_a1_cums : Nat → Int) (v_t_ready : Int) (v_t_frames : Int) (f_t_gaps : Nat → Int) (f_t_sums : Nat → Int) (f_t_costs : Nat → Int) (f_t_leasts : Nat → Int) (x2 : Int) : Option (Int × Int × (Nat → Int) × (Nat → Int) × (Nat → Int) × (Nat → Int)) := (if iZ v_t_ready = iZ 0 then ((fX5_measureGaps N x2 f_a1_cums f_t_gaps).bind fun r2 => (fX5_work_L20 N f_a1_cums x2 (fX5_work_j39 N f_a1_cums x2) N 0 v_t_ready x2 r2 f_t_sums f_t_costs f_t_leasts)) else (some ((v_t_ready, v_t_frames, f_t_gaps, f_t_sums, f_t_costs, f_t_leasts))))
abbrev kX5_work (p : Program) (l : Launch) (e : Env) (s : State) (m : MethodId) (args : Array Value) (below : List Frame) (meth : Method) (c : Code) (Q : State → Prop) (G : ZG) (D : va_G) (cA : Nat → ClassId) (A : Nat → Prop) (h_t h_a1 h_a1_cums h_t_gaps h_t_sums h_t_costs h_t_leasts : Nat) (f_a1_cums : Nat → Int) (x2 : Int) (N : Nat) (r : Int × Int × (Nat → Int) × (Nat → Int) × (Nat → Int) × (Nat → Int)) : Prop := ∀ (pc : Nat) (H : Heap) (locs : List Loc) (ls : Array Slot), decode cX5_work pc = .ok (.return_, 1) → va_P D vwCl (wX5_work cA h_t h_a1 h_a1_cums h_t_gaps h_t_sums h_t_costs h_t_leasts r.1 r.2.1 f_a1_cums r.2.2.1 r.2.2.2.1 r.2.2.2.2.1 r.2.2.2.2.2) H → va_D A (wX5_work cA h_t h_a1 h_a1_cums h_t_gaps h_t_sums h_t_costs h_t_leasts r.1 r.2.1 f_a1_cums r.2.2.1 r.2.2.2.1 r.2.2.2.2.1 r.2.2.2.2.2) → va_S A s.heap H locs → W p l e rmX5_work s m args below meth c H locs 0 0 Q (F0 m pc ls [])
abbrev sX5_work_39 (p : Program) (l : Launch) (e : Env) (s : State) (m : MethodId) (args : Array Value) (below : List Frame) (meth : Method) (c : Code) (Q : State → Prop) (G : ZG) (D : va_G) (cA : Nat → ClassId) (A : Nat → Prop) (h_t h_a1 h_a1_cums h_t_gaps h_t_sums h_t_costs h_t_leasts : Nat) (f_a1_cums : Nat → Int) (x2 : Int) (N : Nat) (v_t_ready : Int) (v_t_frames : Int) (f_t_gaps : Nat → Int) (f_t_sums : Nat → Int) (f_t_costs : Nat → Int) (f_t_leasts : Nat → Int) : Prop := ∀ (H : Heap) (locs : List Loc), va_P D vwCl (wX5_work cA h_t h_a1 h_a1_cums h_t_gaps h_t_sums h_t_costs h_t_leasts v_t_ready v_t_frames f_a1_cums f_t_gaps f_t_sums f_t_costs f_t_leasts) H → va_D A (wX5_work cA h_t h_a1 h_a1_cums h_t_gaps h_t_sums h_t_costs h_t_leasts v_t_ready v_t_frames f_a1_cums f_t_gaps f_t_sums f_t_costs f_t_leasts) → va_S A s.heap H locs → ∀ ls : Array Slot, lv_has ls 5 [(0, .ref h_t)] → W p l e rmX5_work s m args below meth c H locs 0 0 Q (F0 m 39 ls [])
abbrev sX5_work_20 (p : Program) (l : Launch) (e : Env) (s : State) (m : MethodId) (args : Array Value) (below : List Frame) (meth : Method) (c : Code) (Q : State → Prop) (G : ZG) (D : va_G) (cA : Nat → ClassId) (A : Nat → Prop) (h_t h_a1 h_a1_cums h_t_gaps h_t_sums h_t_costs h_t_leasts : Nat) (f_a1_cums : Nat → Int) (x2 : Int) (N : Nat) (i3 : Int) (v_t_ready : Int) (v_t_frames : Int) (f_t_gaps : Nat → Int) (f_t_sums : Nat → Int) (f_t_costs : Nat → Int) (f_t_leasts : Nat → Int) : Prop := ∀ (H : Heap) (locs : List Loc), va_P D vwCl (wX5_work cA h_t h_a1 h_a1_cums h_t_gaps h_t_sums h_t_costs h_t_leasts v_t_ready v_t_frames f_a1_cums f_t_gaps f_t_sums f_t_costs f_t_leasts) H → va_D A (wX5_work cA h_t h_a1 h_a1_cums h_t_gaps h_t_sums h_t_costs h_t_leasts v_t_ready v_t_frames f_a1_cums f_t_gaps f_t_sums f_t_costs f_t_leasts) → va_S A s.heap H locs → ∀ ls : Array Slot, lv_has ls 5 [(0, .ref h_t), (3, .int (iZ i3))] → W p l e rmX5_work s m args below meth c H locs 0 0 Q (F0 m 20 ls [])
abbrev sX5_work_103 (p : Program) (l : Launch) (e : Env) (s : State) (m : MethodId) (args : Array Value) (below : List Frame) (meth : Method) (c : Code) (Q : State → Prop) (G : ZG) (D : va_G) (cA : Nat → ClassId) (A : Nat → Prop) (h_t h_a1 h_a1_cums h_t_gaps h_t_sums h_t_costs h_t_leasts : Nat) (f_a1_cums : Nat → Int) (x2 : Int) (N : Nat) (i3 : Int) (v_t_ready : Int) (v_t_frames : Int) (f_t_gaps : Nat → Int) (f_t_sums : Nat → Int) (f_t_costs : Nat → Int) (f_t_leasts : Nat → Int) : Prop := ∀ (H : Heap) (locs : List Loc), va_P D vwCl (wX5_work cA h_t h_a1 h_a1_cums h_t_gaps h_t_sums h_t_costs h_t_leasts v_t_ready v_t_frames f_a1_cums f_t_gaps f_t_sums f_t_costs f_t_leasts) H → va_D A (wX5_work cA h_t h_a1 h_a1_cums h_t_gaps h_t_sums h_t_costs h_t_leasts v_t_ready v_t_frames f_a1_cums f_t_gaps f_t_sums f_t_costs f_t_leasts) → va_S A s.heap H locs → ∀ ls : Array Slot, lv_has ls 5 [(0, .ref h_t), (3, .int (iZ i3))] → W p l e rmX5_work s m args below meth c H locs 0 0 Q (F0 m 103 ls [])
abbrev sX5_work_69 (p : Program) (l : Launch) (e : Env) (s : State) (m : MethodId) (args : Array Value) (below : List Frame) (meth : Method) (c : Code) (Q : State → Prop) (G : ZG) (D : va_G) (cA : Nat → ClassId) (A : Nat → Prop) (h_t h_a1 h_a1_cums h_t_gaps h_t_sums h_t_costs h_t_leasts : Nat) (f_a1_cums : Nat → Int) (x2 : Int) (N : Nat) (i3 : Int) (i4 : Int) (v_t_ready : Int) (v_t_frames : Int) (f_t_gaps : Nat → Int) (f_t_sums : Nat → Int) (f_t_costs : Nat → Int) (f_t_leasts : Nat → Int) : Prop := ∀ (H : Heap) (locs : List Loc), va_P D vwCl (wX5_work cA h_t h_a1 h_a1_cums h_t_gaps h_t_sums h_t_costs h_t_leasts v_t_ready v_t_frames f_a1_cums f_t_gaps f_t_sums f_t_costs f_t_leasts) H → va_D A (wX5_work cA h_t h_a1 h_a1_cums h_t_gaps h_t_sums h_t_costs h_t_leasts v_t_ready v_t_frames f_a1_cums f_t_gaps f_t_sums f_t_costs f_t_leasts) → va_S A s.heap H locs → ∀ ls : Array Slot, lv_has ls 5 [(0, .ref h_t), (3, .int (iZ i3)), (4, .int (iZ i4))] → W p l e rmX5_work s m args below meth c H locs 0 0 Q (F0 m 69 ls [])
abbrev sX5_work_109 (p : Program) (l : Launch) (e : Env) (s : State) (m : MethodId) (args : Array Value) (below : List Frame) (meth : Method) (c : Code) (Q : State → Prop) (G : ZG) (D : va_G) (cA : Nat → ClassId) (A : Nat → Prop) (h_t h_a1 h_a1_cums h_t_gaps h_t_sums h_t_costs h_t_leasts : Nat) (f_a1_cums : Nat → Int) (x2 : Int) (N : Nat) (v_t_ready : Int) (v_t_frames : Int) (f_t_gaps : Nat → Int) (f_t_sums : Nat → Int) (f_t_costs : Nat → Int) (f_t_leasts : Nat → Int) : Prop := ∀ (H : Heap) (locs : List Loc), va_P D vwCl (wX5_work cA h_t h_a1 h_a1_cums h_t_gaps h_t_sums h_t_costs h_t_leasts v_t_ready v_t_frames f_a1_cums f_t_gaps f_t_sums f_t_costs f_t_leasts) H → va_D A (wX5_work cA h_t h_a1 h_a1_cums h_t_gaps h_t_sums h_t_costs h_t_leasts v_t_ready v_t_frames f_a1_cums f_t_gaps f_t_sums f_t_costs f_t_leasts) → va_S A s.heap H locs → ∀ ls : Array Slot, lv_has ls 5 [(0, .ref h_t)] → W p l e rmX5_work s m args below meth c H locs 0 0 Q (F0 m 109 ls [])
abbrev sX5_work_60 (p : Program) (l : Launch) (e : Env) (s : State) (m : MethodId) (args : Array Value) (below : List Frame) (meth : Method) (c : Code) (Q : State → Prop) (G : ZG) (D : va_G) (cA : Nat → ClassId) (A : Nat → Prop) (h_t h_a1 h_a1_cums h_t_gaps h_t_sums h_t_costs h_t_leasts : Nat) (f_a1_cums : Nat → Int) (x2 : Int) (N : Nat) (i3 : Int) (v_t_ready : Int) (v_t_frames : Int) (f_t_gaps : Nat → Int) (f_t_sums : Nat → Int) (f_t_costs : Nat → Int) (f_t_leasts : Nat → Int) : Prop := ∀ (H : Heap) (locs : List Loc), va_P D vwCl (wX5_work cA h_t h_a1 h_a1_cums h_t_gaps h_t_sums h_t_costs h_t_leasts v_t_ready v_t_frames f_a1_cums f_t_gaps f_t_sums f_t_costs f_t_leasts) H → va_D A (wX5_work cA h_t h_a1 h_a1_cums h_t_gaps h_t_sums h_t_costs h_t_leasts v_t_ready v_t_frames f_a1_cums f_t_gaps f_t_sums f_t_costs f_t_leasts) → va_S A s.heap H locs → ∀ ls : Array Slot, lv_has ls 5 [(0, .ref h_t), (3, .int (iZ i3))] → W p l e rmX5_work s m args below meth c H locs 0 0 Q (F0 m 60 ls [])
set_option maxHeartbeats 4000000 in
set_option maxRecDepth 100000 in
theorem wX5_work_b20 (p : Program) (l : Launch) (e : Env) (s : State) (m : MethodId) (args : Array Value) (below : List Frame) (meth : Method) (c : Code) (Q : State → Prop) (G : ZG) (D : va_G) (cA : Nat → ClassId) (A : Nat → Prop) (h_t h_a1 h_a1_cums h_t_gaps h_t_sums h_t_costs h_t_leasts : Nat) (f_a1_cums : Nat → Int) (x2 : Int) (N : Nat) (C : CallFix p m c cX5_work 5 s args vX5_work RX5) (hK : va_K D vwCl (zT cA) s) (hA : ∀ q, s.heap.size ≤ q → A q) (hZ : zSt G A s s.heap) (r : Int × Int × (Nat → Int) × (Nat → Int) × (Nat → Int) × (Nat → Int)) (kr : kX5_work p l e s m args below meth c Q G D cA A h_t h_a1 h_a1_cums h_t_gaps h_t_sums h_t_costs h_t_leasts f_a1_cums x2 N r) (rec : Int → Int → Int → (Nat → Int) → (Nat → Int) → (Nat → Int) → (Nat → Int) → Option (Int × Int × (Nat → Int) × (Nat → Int) × (Nat → Int) × (Nat → Int))) (k : Int → Int → (Nat → Int) → (Nat → Int) → (Nat → Int) → (Nat → Int) → Option (Int × Int × (Nat → Int) × (Nat → Int) × (Nat → Int) × (Nat → Int))) (hrec : ∀ (i3 : Int) (v_t_ready : Int) (v_t_frames : Int) (f_t_gaps : Nat → Int) (f_t_sums : Nat → Int) (f_t_costs : Nat → Int) (f_t_leasts : Nat → Int), rec i3 v_t_ready v_t_frames f_t_gaps f_t_sums f_t_costs f_t_leasts = some r → sX5_work_20 p l e s m args below meth c Q G D cA A h_t h_a1 h_a1_cums h_t_gaps h_t_sums h_t_costs h_t_leasts f_a1_cums x2 N i3 v_t_ready v_t_frames f_t_gaps f_t_sums f_t_costs f_t_leasts) (hk : ∀ (v_t_ready : Int) (v_t_frames : Int) (f_t_gaps : Nat → Int) (f_t_sums : Nat → Int) (f_t_costs : Nat → Int) (f_t_leasts : Nat → Int), k v_t_ready v_t_frames f_t_gaps f_t_sums f_t_costs f_t_leasts = some r → sX5_work_39 p l e s m args below meth c Q G D cA A h_t h_a1 h_a1_cums h_t_gaps h_t_sums h_t_costs h_t_leasts f_a1_cums x2 N v_t_ready v_t_frames f_t_gaps f_t_sums f_t_costs f_t_leasts) (i3 : Int) (v_t_ready : Int) (v_t_frames : Int) (f_t_gaps : Nat → Int) (f_t_sums : Nat → Int) (f_t_costs : Nat → Int) (f_t_leasts : Nat → Int) (h : fX5_work_b20 N f_a1_cums x2 rec k i3 v_t_ready v_t_frames f_t_gaps f_t_sums f_t_costs f_t_leasts = some r) : sX5_work_20 p l e s m args below meth c Q G D cA A h_t h_a1 h_a1_cums h_t_gaps h_t_sums h_t_costs h_t_leasts f_a1_cums x2 N i3 v_t_ready v_t_frames f_t_gaps f_t_sums f_t_costs f_t_leasts := by
  obtain ⟨hx, hb, hml, hown, hts⟩ := id C
  have hq : ∀ w ∈ wAll, w.before args s = true := fun w h => hts w (List.mem_cons_of_mem _ h)
  intro H locs hP hD hS ls hl
  unfold fX5_work_b20 at h
  refine lv_iload_n hx hb dX5_work_20 rfl (lv_at hl 1 rfl) ?_
  refine lv_aload_n hx hb dX5_work_21 rfl (lv_at hl 0 rfl) ?_
  refine va_get (D := D) (ci := 5) (v := .int (iZ v_t_frames)) (C := RX5) (T := TX5) (N := 6) hx hb hq in_wsX50 hown hK hP 0 rfl rfl 1 (by decide) (hq _ q307) (fun _ h9 => h9) rfl dX5_work_22 ?_
  refine z_icmp_ge (tgt := 39) hx hb dX5_work_25 (by decide) (fun c3 => ?_) (fun c3 => ?_)
  · rw [if_neg c3] at h
    exact hk v_t_ready v_t_frames f_t_gaps f_t_sums f_t_costs f_t_leasts h H locs hP hD hS ls (lv_sub hl [0] rfl)
  · rw [if_pos c3] at h
    refine lv_aload_n hx hb dX5_work_28 rfl (lv_at hl 0 rfl) ?_
    refine lv_iload_n hx hb dX5_work_29 rfl (lv_at hl 1 rfl) ?_
    obtain ⟨r4, e4, h⟩ := bd_some h
    refine z_callVv (G := G) (D := D) (cA := cA) (wc := (wX5_addCosts cA h_t h_t_gaps h_t_sums h_t_costs h_t_leasts v_t_ready v_t_frames f_t_gaps f_t_sums f_t_costs)) (wr := [(h_a1, .inr (9, [.ref h_a1_cums])), (h_a1_cums, zA (cA 0) 384 f_a1_cums), (h_t_leasts, zA (cA 0) 225 f_t_leasts)]) (w1 := (wX5_addCosts cA h_t h_t_gaps h_t_sums h_t_costs h_t_leasts v_t_ready v_t_frames f_t_gaps r4.1 r4.2)) (ws' := (wX5_work cA h_t h_a1 h_a1_cums h_t_gaps h_t_sums h_t_costs h_t_leasts v_t_ready v_t_frames f_a1_cums f_t_gaps r4.1 r4.2 f_t_leasts)) (As := [.int (iZ i3)]) C hK hA hZ hP hD hS [0, 3, 4, 5] [1, 2, 6] [3, 0, 1, 4, 5, 6, 2] rfl rfl rfl (by decide) (cX5_addCosts_m l G D cA h_t h_t_gaps h_t_sums h_t_costs h_t_leasts v_t_ready v_t_frames f_t_gaps f_t_sums f_t_costs i3 H.size N e4) (cwV 1 hts (gAllV q326 q327 q328 q317 q309) rfl rfl rfl (by decide +kernel) ⟨Nat.le_of_ble_eq_true rfl, Nat.le_of_ble_eq_true rfl⟩) 0 5 rfl rfl rfl rfl hl.1 rfl (Nat.le_of_ble_eq_true rfl) ⟨Nat.zero_le _, Nat.zero_le _⟩ dX5_work_30 (fun H locs hP hD hS => ?_)
    refine z_iinc (lv' := [(3, .int (iZ (i3 + 1))), (0, .ref h_t)]) hx hb dX5_work_33 hl (k := 1) rfl (by decide) rfl (fun ls hl => ?_)
    refine lv_goto (tgt := 20) hx hb dX5_work_36 (by decide) ?_
    exact hrec (i3 + 1) v_t_ready v_t_frames f_t_gaps r4.1 r4.2 f_t_leasts h H locs hP hD hS ls (lv_sub hl [1, 0] rfl)
theorem wX5_work_L20 (p : Program) (l : Launch) (e : Env) (s : State) (m : MethodId) (args : Array Value) (below : List Frame) (meth : Method) (c : Code) (Q : State → Prop) (G : ZG) (D : va_G) (cA : Nat → ClassId) (A : Nat → Prop) (h_t h_a1 h_a1_cums h_t_gaps h_t_sums h_t_costs h_t_leasts : Nat) (f_a1_cums : Nat → Int) (x2 : Int) (N : Nat) (C : CallFix p m c cX5_work 5 s args vX5_work RX5) (hK : va_K D vwCl (zT cA) s) (hA : ∀ q, s.heap.size ≤ q → A q) (hZ : zSt G A s s.heap) (r : Int × Int × (Nat → Int) × (Nat → Int) × (Nat → Int) × (Nat → Int)) (kr : kX5_work p l e s m args below meth c Q G D cA A h_t h_a1 h_a1_cums h_t_gaps h_t_sums h_t_costs h_t_leasts f_a1_cums x2 N r) (k : Int → Int → (Nat → Int) → (Nat → Int) → (Nat → Int) → (Nat → Int) → Option (Int × Int × (Nat → Int) × (Nat → Int) × (Nat → Int) × (Nat → Int))) (hk : ∀ (v_t_ready : Int) (v_t_frames : Int) (f_t_gaps : Nat → Int) (f_t_sums : Nat → Int) (f_t_costs : Nat → Int) (f_t_leasts : Nat → Int), k v_t_ready v_t_frames f_t_gaps f_t_sums f_t_costs f_t_leasts = some r → sX5_work_39 p l e s m args below meth c Q G D cA A h_t h_a1 h_a1_cums h_t_gaps h_t_sums h_t_costs h_t_leasts f_a1_cums x2 N v_t_ready v_t_frames f_t_gaps f_t_sums f_t_costs f_t_leasts) : ∀ (n : Nat) (i3 : Int) (v_t_ready : Int) (v_t_frames : Int) (f_t_gaps : Nat → Int) (f_t_sums : Nat → Int) (f_t_costs : Nat → Int) (f_t_leasts : Nat → Int), fX5_work_L20 N f_a1_cums x2 k n i3 v_t_ready v_t_frames f_t_gaps f_t_sums f_t_costs f_t_leasts = some r → sX5_work_20 p l e s m args below meth c Q G D cA A h_t h_a1 h_a1_cums h_t_gaps h_t_sums h_t_costs h_t_leasts f_a1_cums x2 N i3 v_t_ready v_t_frames f_t_gaps f_t_sums f_t_costs f_t_leasts := by
  intro n
  induction n with
  | zero =>
    intro i3 v_t_ready v_t_frames f_t_gaps f_t_sums f_t_costs f_t_leasts h
    have h : none = some r := h
    cases h
  | succ n ih =>
    intro i3 v_t_ready v_t_frames f_t_gaps f_t_sums f_t_costs f_t_leasts h
    exact wX5_work_b20 p l e s m args below meth c Q G D cA A h_t h_a1 h_a1_cums h_t_gaps h_t_sums h_t_costs h_t_leasts f_a1_cums x2 N C hK hA hZ r kr (fX5_work_L20 N f_a1_cums x2 k n) k ih hk i3 v_t_ready v_t_frames f_t_gaps f_t_sums f_t_costs f_t_leasts h
set_option maxHeartbeats 4000000 in
set_option maxRecDepth 100000 in
theorem wX5_work_b69 (p : Program) (l : Launch) (e : Env) (s : State) (m : MethodId) (args : Array Value) (below : List Frame) (meth : Method) (c : Code) (Q : State → Prop) (G : ZG) (D : va_G) (cA : Nat → ClassId) (A : Nat → Prop) (h_t h_a1 h_a1_cums h_t_gaps h_t_sums h_t_costs h_t_leasts : Nat) (f_a1_cums : Nat → Int) (x2 : Int) (N : Nat) (C : CallFix p m c cX5_work 5 s args vX5_work RX5) (hK : va_K D vwCl (zT cA) s) (hA : ∀ q, s.heap.size ≤ q → A q) (hZ : zSt G A s s.heap) (r : Int × Int × (Nat → Int) × (Nat → Int) × (Nat → Int) × (Nat → Int)) (kr : kX5_work p l e s m args below meth c Q G D cA A h_t h_a1 h_a1_cums h_t_gaps h_t_sums h_t_costs h_t_leasts f_a1_cums x2 N r) (rec : Int → Int → Int → Int → (Nat → Int) → (Nat → Int) → (Nat → Int) → (Nat → Int) → Option (Int × Int × (Nat → Int) × (Nat → Int) × (Nat → Int) × (Nat → Int))) (k : Int → Int → Int → (Nat → Int) → (Nat → Int) → (Nat → Int) → (Nat → Int) → Option (Int × Int × (Nat → Int) × (Nat → Int) × (Nat → Int) × (Nat → Int))) (hrec : ∀ (i3 : Int) (i4 : Int) (v_t_ready : Int) (v_t_frames : Int) (f_t_gaps : Nat → Int) (f_t_sums : Nat → Int) (f_t_costs : Nat → Int) (f_t_leasts : Nat → Int), rec i3 i4 v_t_ready v_t_frames f_t_gaps f_t_sums f_t_costs f_t_leasts = some r → sX5_work_69 p l e s m args below meth c Q G D cA A h_t h_a1 h_a1_cums h_t_gaps h_t_sums h_t_costs h_t_leasts f_a1_cums x2 N i3 i4 v_t_ready v_t_frames f_t_gaps f_t_sums f_t_costs f_t_leasts) (hk : ∀ (i3 : Int) (v_t_ready : Int) (v_t_frames : Int) (f_t_gaps : Nat → Int) (f_t_sums : Nat → Int) (f_t_costs : Nat → Int) (f_t_leasts : Nat → Int), k i3 v_t_ready v_t_frames f_t_gaps f_t_sums f_t_costs f_t_leasts = some r → sX5_work_103 p l e s m args below meth c Q G D cA A h_t h_a1 h_a1_cums h_t_gaps h_t_sums h_t_costs h_t_leasts f_a1_cums x2 N i3 v_t_ready v_t_frames f_t_gaps f_t_sums f_t_costs f_t_leasts) (i3 : Int) (i4 : Int) (v_t_ready : Int) (v_t_frames : Int) (f_t_gaps : Nat → Int) (f_t_sums : Nat → Int) (f_t_costs : Nat → Int) (f_t_leasts : Nat → Int) (h : fX5_work_b69 N f_a1_cums x2 rec k i3 i4 v_t_ready v_t_frames f_t_gaps f_t_sums f_t_costs f_t_leasts = some r) : sX5_work_69 p l e s m args below meth c Q G D cA A h_t h_a1 h_a1_cums h_t_gaps h_t_sums h_t_costs h_t_leasts f_a1_cums x2 N i3 i4 v_t_ready v_t_frames f_t_gaps f_t_sums f_t_costs f_t_leasts := by
  obtain ⟨hx, hb, hml, hown, hts⟩ := id C
  have hq : ∀ w ∈ wAll, w.before args s = true := fun w h => hts w (List.mem_cons_of_mem _ h)
  intro H locs hP hD hS ls hl
  unfold fX5_work_b69 at h
  refine lv_iload hx hb dX5_work_69 (lv_at hl 2 rfl) ?_
  refine lv_aload_n hx hb dX5_work_71 rfl (lv_at hl 0 rfl) ?_
  refine va_get (D := D) (ci := 5) (v := .int (iZ v_t_frames)) (C := RX5) (T := TX5) (N := 6) hx hb hq in_wsX50 hown hK hP 0 rfl rfl 1 (by decide) (hq _ q307) (fun _ h9 => h9) rfl dX5_work_72 ?_
  refine z_icmp_ge (tgt := 103) hx hb dX5_work_75 (by decide) (fun c8 => ?_) (fun c8 => ?_)
  · rw [if_neg c8] at h
    exact hk i3 v_t_ready v_t_frames f_t_gaps f_t_sums f_t_costs f_t_leasts h H locs hP hD hS ls (lv_sub hl [0, 1] rfl)
  · rw [if_pos c8] at h
    refine lv_aload_n hx hb dX5_work_78 rfl (lv_at hl 0 rfl) ?_
    refine va_get (D := D) (ci := 5) (v := .ref h_t_leasts) (C := RX5) (T := TX5) (N := 6) hx hb hq in_wsX50 hown hK hP 0 rfl rfl 5 (by decide) (hq _ q305) (fun _ h9 => h9) rfl dX5_work_79 ?_
    refine lv_iload_n hx hb dX5_work_82 rfl (lv_at hl 1 rfl) ?_
    refine z_bipush hx hb dX5_work_83 (by decide) ?_
    refine z_imul hx hb dX5_work_85 ?_
    refine lv_iload hx hb dX5_work_86 (lv_at hl 2 rfl) ?_
    refine z_iadd hx hb dX5_work_88 ?_
    refine lv_aload_n hx hb dX5_work_89 rfl (lv_at hl 0 rfl) ?_
    refine lv_iload_n hx hb dX5_work_90 rfl (lv_at hl 1 rfl) ?_
    refine lv_iload hx hb dX5_work_91 (lv_at hl 2 rfl) ?_
    obtain ⟨r9, e9, h⟩ := bd_some h
    refine z_callVi (G := G) (D := D) (cA := cA) (wc := (wX5_leastOf cA h_t h_t_costs h_t_leasts h_t_sums h_t_gaps v_t_ready v_t_frames f_t_costs f_t_leasts)) (wr := [(h_a1, .inr (9, [.ref h_a1_cums])), (h_a1_cums, zA (cA 0) 384 f_a1_cums), (h_t_gaps, zA (cA 0) 576 f_t_gaps), (h_t_sums, zA (cA 0) 24 f_t_sums)]) (w1 := (wX5_leastOf cA h_t h_t_costs h_t_leasts h_t_sums h_t_gaps v_t_ready v_t_frames f_t_costs f_t_leasts)) (ws' := (wX5_work cA h_t h_a1 h_a1_cums h_t_gaps h_t_sums h_t_costs h_t_leasts v_t_ready v_t_frames f_a1_cums f_t_gaps f_t_sums f_t_costs f_t_leasts)) (r := r9) (As := [.int (iZ i3), .int (iZ i4)]) C hK hA hZ hP hD hS [0, 5, 6] [1, 2, 3, 4] [4, 0, 1, 2, 3, 5, 6] rfl rfl rfl (by decide) (cX5_leastOf_m l G D cA h_t h_t_costs h_t_leasts h_t_sums h_t_gaps v_t_ready v_t_frames f_t_costs f_t_leasts i3 i4 H.size N e9) (cwV 2 hts (gAllV q330 q331 q332 q317 q318) rfl rfl rfl (by decide +kernel) ⟨Nat.le_of_ble_eq_true rfl, Nat.le_of_ble_eq_true rfl⟩) 0 5 rfl rfl rfl rfl hl.1 rfl (Nat.le_of_ble_eq_true rfl) ⟨Nat.zero_le _, Nat.zero_le _⟩ dX5_work_93 (fun H locs hP hD hS => ?_)
    obtain ⟨g10, h⟩ := gd_some h
    refine z_iast (ws' := (wX5_work cA h_t h_a1 h_a1_cums h_t_gaps h_t_sums h_t_costs h_t_leasts v_t_ready v_t_frames f_a1_cums f_t_gaps f_t_sums f_t_costs (uZ f_t_leasts ((i3 * 25) + i4).toNat r9))) hx hb hK hP hD hS 6 0 rfl rfl (Nat.le_of_ble_eq_true rfl) g10 rfl dX5_work_96 (fun H locs hP hD hS => ?_)
    refine z_iinc (lv' := [(4, .int (iZ (i4 + 1))), (0, .ref h_t), (3, .int (iZ i3))]) hx hb dX5_work_97 hl (k := 2) rfl (by decide) rfl (fun ls hl => ?_)
    refine lv_goto (tgt := 69) hx hb dX5_work_100 (by decide) ?_
    exact hrec i3 (i4 + 1) v_t_ready v_t_frames f_t_gaps f_t_sums f_t_costs (uZ f_t_leasts ((i3 * 25) + i4).toNat r9) h H locs hP hD hS ls (lv_sub hl [1, 2, 0] rfl)
theorem wX5_work_L69 (p : Program) (l : Launch) (e : Env) (s : State) (m : MethodId) (args : Array Value) (below : List Frame) (meth : Method) (c : Code) (Q : State → Prop) (G : ZG) (D : va_G) (cA : Nat → ClassId) (A : Nat → Prop) (h_t h_a1 h_a1_cums h_t_gaps h_t_sums h_t_costs h_t_leasts : Nat) (f_a1_cums : Nat → Int) (x2 : Int) (N : Nat) (C : CallFix p m c cX5_work 5 s args vX5_work RX5) (hK : va_K D vwCl (zT cA) s) (hA : ∀ q, s.heap.size ≤ q → A q) (hZ : zSt G A s s.heap) (r : Int × Int × (Nat → Int) × (Nat → Int) × (Nat → Int) × (Nat → Int)) (kr : kX5_work p l e s m args below meth c Q G D cA A h_t h_a1 h_a1_cums h_t_gaps h_t_sums h_t_costs h_t_leasts f_a1_cums x2 N r) (k : Int → Int → Int → (Nat → Int) → (Nat → Int) → (Nat → Int) → (Nat → Int) → Option (Int × Int × (Nat → Int) × (Nat → Int) × (Nat → Int) × (Nat → Int))) (hk : ∀ (i3 : Int) (v_t_ready : Int) (v_t_frames : Int) (f_t_gaps : Nat → Int) (f_t_sums : Nat → Int) (f_t_costs : Nat → Int) (f_t_leasts : Nat → Int), k i3 v_t_ready v_t_frames f_t_gaps f_t_sums f_t_costs f_t_leasts = some r → sX5_work_103 p l e s m args below meth c Q G D cA A h_t h_a1 h_a1_cums h_t_gaps h_t_sums h_t_costs h_t_leasts f_a1_cums x2 N i3 v_t_ready v_t_frames f_t_gaps f_t_sums f_t_costs f_t_leasts) : ∀ (n : Nat) (i3 : Int) (i4 : Int) (v_t_ready : Int) (v_t_frames : Int) (f_t_gaps : Nat → Int) (f_t_sums : Nat → Int) (f_t_costs : Nat → Int) (f_t_leasts : Nat → Int), fX5_work_L69 N f_a1_cums x2 k n i3 i4 v_t_ready v_t_frames f_t_gaps f_t_sums f_t_costs f_t_leasts = some r → sX5_work_69 p l e s m args below meth c Q G D cA A h_t h_a1 h_a1_cums h_t_gaps h_t_sums h_t_costs h_t_leasts f_a1_cums x2 N i3 i4 v_t_ready v_t_frames f_t_gaps f_t_sums f_t_costs f_t_leasts := by
  intro n
  induction n with
  | zero =>
    intro i3 i4 v_t_ready v_t_frames f_t_gaps f_t_sums f_t_costs f_t_leasts h
    have h : none = some r := h
    cases h
  | succ n ih =>
    intro i3 i4 v_t_ready v_t_frames f_t_gaps f_t_sums f_t_costs f_t_leasts h
    exact wX5_work_b69 p l e s m args below meth c Q G D cA A h_t h_a1 h_a1_cums h_t_gaps h_t_sums h_t_costs h_t_leasts f_a1_cums x2 N C hK hA hZ r kr (fX5_work_L69 N f_a1_cums x2 k n) k ih hk i3 i4 v_t_ready v_t_frames f_t_gaps f_t_sums f_t_costs f_t_leasts h
set_option maxHeartbeats 4000000 in
set_option maxRecDepth 100000 in
theorem wX5_work_j103 (p : Program) (l : Launch) (e : Env) (s : State) (m : MethodId) (args : Array Value) (below : List Frame) (meth : Method) (c : Code) (Q : State → Prop) (G : ZG) (D : va_G) (cA : Nat → ClassId) (A : Nat → Prop) (h_t h_a1 h_a1_cums h_t_gaps h_t_sums h_t_costs h_t_leasts : Nat) (f_a1_cums : Nat → Int) (x2 : Int) (N : Nat) (C : CallFix p m c cX5_work 5 s args vX5_work RX5) (hK : va_K D vwCl (zT cA) s) (hA : ∀ q, s.heap.size ≤ q → A q) (hZ : zSt G A s s.heap) (r : Int × Int × (Nat → Int) × (Nat → Int) × (Nat → Int) × (Nat → Int)) (kr : kX5_work p l e s m args below meth c Q G D cA A h_t h_a1 h_a1_cums h_t_gaps h_t_sums h_t_costs h_t_leasts f_a1_cums x2 N r) (rec : Int → Int → Int → (Nat → Int) → (Nat → Int) → (Nat → Int) → (Nat → Int) → Option (Int × Int × (Nat → Int) × (Nat → Int) × (Nat → Int) × (Nat → Int))) (k : Int → Int → (Nat → Int) → (Nat → Int) → (Nat → Int) → (Nat → Int) → Option (Int × Int × (Nat → Int) × (Nat → Int) × (Nat → Int) × (Nat → Int))) (hrec : ∀ (i3 : Int) (v_t_ready : Int) (v_t_frames : Int) (f_t_gaps : Nat → Int) (f_t_sums : Nat → Int) (f_t_costs : Nat → Int) (f_t_leasts : Nat → Int), rec i3 v_t_ready v_t_frames f_t_gaps f_t_sums f_t_costs f_t_leasts = some r → sX5_work_60 p l e s m args below meth c Q G D cA A h_t h_a1 h_a1_cums h_t_gaps h_t_sums h_t_costs h_t_leasts f_a1_cums x2 N i3 v_t_ready v_t_frames f_t_gaps f_t_sums f_t_costs f_t_leasts) (hk : ∀ (v_t_ready : Int) (v_t_frames : Int) (f_t_gaps : Nat → Int) (f_t_sums : Nat → Int) (f_t_costs : Nat → Int) (f_t_leasts : Nat → Int), k v_t_ready v_t_frames f_t_gaps f_t_sums f_t_costs f_t_leasts = some r → sX5_work_109 p l e s m args below meth c Q G D cA A h_t h_a1 h_a1_cums h_t_gaps h_t_sums h_t_costs h_t_leasts f_a1_cums x2 N v_t_ready v_t_frames f_t_gaps f_t_sums f_t_costs f_t_leasts) (i3 : Int) (v_t_ready : Int) (v_t_frames : Int) (f_t_gaps : Nat → Int) (f_t_sums : Nat → Int) (f_t_costs : Nat → Int) (f_t_leasts : Nat → Int) (h : fX5_work_j103 N f_a1_cums x2 rec k i3 v_t_ready v_t_frames f_t_gaps f_t_sums f_t_costs f_t_leasts = some r) : sX5_work_103 p l e s m args below meth c Q G D cA A h_t h_a1 h_a1_cums h_t_gaps h_t_sums h_t_costs h_t_leasts f_a1_cums x2 N i3 v_t_ready v_t_frames f_t_gaps f_t_sums f_t_costs f_t_leasts := by
  obtain ⟨hx, hb, hml, hown, hts⟩ := id C
  have hq : ∀ w ∈ wAll, w.before args s = true := fun w h => hts w (List.mem_cons_of_mem _ h)
  intro H locs hP hD hS ls hl
  unfold fX5_work_j103 at h
  refine z_iinc (lv' := [(3, .int (iZ (i3 + 1))), (0, .ref h_t)]) hx hb dX5_work_103 hl (k := 1) rfl (by decide) rfl (fun ls hl => ?_)
  refine lv_goto (tgt := 60) hx hb dX5_work_106 (by decide) ?_
  exact hrec (i3 + 1) v_t_ready v_t_frames f_t_gaps f_t_sums f_t_costs f_t_leasts h H locs hP hD hS ls (lv_sub hl [1, 0] rfl)
set_option maxHeartbeats 4000000 in
set_option maxRecDepth 100000 in
theorem wX5_work_b60 (p : Program) (l : Launch) (e : Env) (s : State) (m : MethodId) (args : Array Value) (below : List Frame) (meth : Method) (c : Code) (Q : State → Prop) (G : ZG) (D : va_G) (cA : Nat → ClassId) (A : Nat → Prop) (h_t h_a1 h_a1_cums h_t_gaps h_t_sums h_t_costs h_t_leasts : Nat) (f_a1_cums : Nat → Int) (x2 : Int) (N : Nat) (C : CallFix p m c cX5_work 5 s args vX5_work RX5) (hK : va_K D vwCl (zT cA) s) (hA : ∀ q, s.heap.size ≤ q → A q) (hZ : zSt G A s s.heap) (r : Int × Int × (Nat → Int) × (Nat → Int) × (Nat → Int) × (Nat → Int)) (kr : kX5_work p l e s m args below meth c Q G D cA A h_t h_a1 h_a1_cums h_t_gaps h_t_sums h_t_costs h_t_leasts f_a1_cums x2 N r) (rec : Int → Int → Int → (Nat → Int) → (Nat → Int) → (Nat → Int) → (Nat → Int) → Option (Int × Int × (Nat → Int) × (Nat → Int) × (Nat → Int) × (Nat → Int))) (k : Int → Int → (Nat → Int) → (Nat → Int) → (Nat → Int) → (Nat → Int) → Option (Int × Int × (Nat → Int) × (Nat → Int) × (Nat → Int) × (Nat → Int))) (hrec : ∀ (i3 : Int) (v_t_ready : Int) (v_t_frames : Int) (f_t_gaps : Nat → Int) (f_t_sums : Nat → Int) (f_t_costs : Nat → Int) (f_t_leasts : Nat → Int), rec i3 v_t_ready v_t_frames f_t_gaps f_t_sums f_t_costs f_t_leasts = some r → sX5_work_60 p l e s m args below meth c Q G D cA A h_t h_a1 h_a1_cums h_t_gaps h_t_sums h_t_costs h_t_leasts f_a1_cums x2 N i3 v_t_ready v_t_frames f_t_gaps f_t_sums f_t_costs f_t_leasts) (hk : ∀ (v_t_ready : Int) (v_t_frames : Int) (f_t_gaps : Nat → Int) (f_t_sums : Nat → Int) (f_t_costs : Nat → Int) (f_t_leasts : Nat → Int), k v_t_ready v_t_frames f_t_gaps f_t_sums f_t_costs f_t_leasts = some r → sX5_work_109 p l e s m args below meth c Q G D cA A h_t h_a1 h_a1_cums h_t_gaps h_t_sums h_t_costs h_t_leasts f_a1_cums x2 N v_t_ready v_t_frames f_t_gaps f_t_sums f_t_costs f_t_leasts) (i3 : Int) (v_t_ready : Int) (v_t_frames : Int) (f_t_gaps : Nat → Int) (f_t_sums : Nat → Int) (f_t_costs : Nat → Int) (f_t_leasts : Nat → Int) (h : fX5_work_b60 N f_a1_cums x2 rec k i3 v_t_ready v_t_frames f_t_gaps f_t_sums f_t_costs f_t_leasts = some r) : sX5_work_60 p l e s m args below meth c Q G D cA A h_t h_a1 h_a1_cums h_t_gaps h_t_sums h_t_costs h_t_leasts f_a1_cums x2 N i3 v_t_ready v_t_frames f_t_gaps f_t_sums f_t_costs f_t_leasts := by
  obtain ⟨hx, hb, hml, hown, hts⟩ := id C
  have hq : ∀ w ∈ wAll, w.before args s = true := fun w h => hts w (List.mem_cons_of_mem _ h)
  intro H locs hP hD hS ls hl
  unfold fX5_work_b60 at h
  refine lv_iload_n hx hb dX5_work_60 rfl (lv_at hl 1 rfl) ?_
  refine z_bipush hx hb dX5_work_61 (by decide) ?_
  refine z_icmp_gt (tgt := 109) hx hb dX5_work_63 (by decide) (fun c7 => ?_) (fun c7 => ?_)
  · rw [if_pos c7] at h
    exact hk v_t_ready v_t_frames f_t_gaps f_t_sums f_t_costs f_t_leasts h H locs hP hD hS ls (lv_sub hl [0] rfl)
  · rw [if_neg c7] at h
    refine z_iconst hx hb dX5_work_66 ?_
    refine lv_istore (lv' := [(4, .int (iZ 0)), (0, .ref h_t), (3, .int (iZ i3))]) hx hb dX5_work_67 hl (by decide) rfl (fun ls hl => ?_)
    exact wX5_work_L69 p l e s m args below meth c Q G D cA A h_t h_a1 h_a1_cums h_t_gaps h_t_sums h_t_costs h_t_leasts f_a1_cums x2 N C hK hA hZ r kr (fX5_work_j103 N f_a1_cums x2 rec k) (fun y0 y1 y2 y3 y4 y5 y6 h9 => wX5_work_j103 p l e s m args below meth c Q G D cA A h_t h_a1 h_a1_cums h_t_gaps h_t_sums h_t_costs h_t_leasts f_a1_cums x2 N C hK hA hZ r kr rec k hrec hk y0 y1 y2 y3 y4 y5 y6 h9) N i3 0 v_t_ready v_t_frames f_t_gaps f_t_sums f_t_costs f_t_leasts h H locs hP hD hS ls (lv_sub hl [1, 2, 0] rfl)
theorem wX5_work_L60 (p : Program) (l : Launch) (e : Env) (s : State) (m : MethodId) (args : Array Value) (below : List Frame) (meth : Method) (c : Code) (Q : State → Prop) (G : ZG) (D : va_G) (cA : Nat → ClassId) (A : Nat → Prop) (h_t h_a1 h_a1_cums h_t_gaps h_t_sums h_t_costs h_t_leasts : Nat) (f_a1_cums : Nat → Int) (x2 : Int) (N : Nat) (C : CallFix p m c cX5_work 5 s args vX5_work RX5) (hK : va_K D vwCl (zT cA) s) (hA : ∀ q, s.heap.size ≤ q → A q) (hZ : zSt G A s s.heap) (r : Int × Int × (Nat → Int) × (Nat → Int) × (Nat → Int) × (Nat → Int)) (kr : kX5_work p l e s m args below meth c Q G D cA A h_t h_a1 h_a1_cums h_t_gaps h_t_sums h_t_costs h_t_leasts f_a1_cums x2 N r) (k : Int → Int → (Nat → Int) → (Nat → Int) → (Nat → Int) → (Nat → Int) → Option (Int × Int × (Nat → Int) × (Nat → Int) × (Nat → Int) × (Nat → Int))) (hk : ∀ (v_t_ready : Int) (v_t_frames : Int) (f_t_gaps : Nat → Int) (f_t_sums : Nat → Int) (f_t_costs : Nat → Int) (f_t_leasts : Nat → Int), k v_t_ready v_t_frames f_t_gaps f_t_sums f_t_costs f_t_leasts = some r → sX5_work_109 p l e s m args below meth c Q G D cA A h_t h_a1 h_a1_cums h_t_gaps h_t_sums h_t_costs h_t_leasts f_a1_cums x2 N v_t_ready v_t_frames f_t_gaps f_t_sums f_t_costs f_t_leasts) : ∀ (n : Nat) (i3 : Int) (v_t_ready : Int) (v_t_frames : Int) (f_t_gaps : Nat → Int) (f_t_sums : Nat → Int) (f_t_costs : Nat → Int) (f_t_leasts : Nat → Int), fX5_work_L60 N f_a1_cums x2 k n i3 v_t_ready v_t_frames f_t_gaps f_t_sums f_t_costs f_t_leasts = some r → sX5_work_60 p l e s m args below meth c Q G D cA A h_t h_a1 h_a1_cums h_t_gaps h_t_sums h_t_costs h_t_leasts f_a1_cums x2 N i3 v_t_ready v_t_frames f_t_gaps f_t_sums f_t_costs f_t_leasts := by
  intro n
  induction n with
  | zero =>
    intro i3 v_t_ready v_t_frames f_t_gaps f_t_sums f_t_costs f_t_leasts h
    have h : none = some r := h
    cases h
  | succ n ih =>
    intro i3 v_t_ready v_t_frames f_t_gaps f_t_sums f_t_costs f_t_leasts h
    exact wX5_work_b60 p l e s m args below meth c Q G D cA A h_t h_a1 h_a1_cums h_t_gaps h_t_sums h_t_costs h_t_leasts f_a1_cums x2 N C hK hA hZ r kr (fX5_work_L60 N f_a1_cums x2 k n) k ih hk i3 v_t_ready v_t_frames f_t_gaps f_t_sums f_t_costs f_t_leasts h
set_option maxHeartbeats 4000000 in
set_option maxRecDepth 100000 in
theorem wX5_work_j109 (p : Program) (l : Launch) (e : Env) (s : State) (m : MethodId) (args : Array Value) (below : List Frame) (meth : Method) (c : Code) (Q : State → Prop) (G : ZG) (D : va_G) (cA : Nat → ClassId) (A : Nat → Prop) (h_t h_a1 h_a1_cums h_t_gaps h_t_sums h_t_costs h_t_leasts : Nat) (f_a1_cums : Nat → Int) (x2 : Int) (N : Nat) (C : CallFix p m c cX5_work 5 s args vX5_work RX5) (hK : va_K D vwCl (zT cA) s) (hA : ∀ q, s.heap.size ≤ q → A q) (hZ : zSt G A s s.heap) (r : Int × Int × (Nat → Int) × (Nat → Int) × (Nat → Int) × (Nat → Int)) (kr : kX5_work p l e s m args below meth c Q G D cA A h_t h_a1 h_a1_cums h_t_gaps h_t_sums h_t_costs h_t_leasts f_a1_cums x2 N r) (v_t_ready : Int) (v_t_frames : Int) (f_t_gaps : Nat → Int) (f_t_sums : Nat → Int) (f_t_costs : Nat → Int) (f_t_leasts : Nat → Int) (h : fX5_work_j109 N f_a1_cums x2 v_t_ready v_t_frames f_t_gaps f_t_sums f_t_costs f_t_leasts = some r) : sX5_work_109 p l e s m args below meth c Q G D cA A h_t h_a1 h_a1_cums h_t_gaps h_t_sums h_t_costs h_t_leasts f_a1_cums x2 N v_t_ready v_t_frames f_t_gaps f_t_sums f_t_costs f_t_leasts := by
  obtain ⟨hx, hb, hml, hown, hts⟩ := id C
  have hq : ∀ w ∈ wAll, w.before args s = true := fun w h => hts w (List.mem_cons_of_mem _ h)
  intro H locs hP hD hS ls hl
  unfold fX5_work_j109 at h
  refine lv_aload_n hx hb dX5_work_109 rfl (lv_at hl 0 rfl) ?_
  refine z_iconst hx hb dX5_work_110 ?_
  refine z_put (ci := 5) (v := .int (iZ 1)) (ty := .boolean) (C := RX5) (T := TX5) (N := 6) (ws' := (wX5_work cA h_t h_a1 h_a1_cums h_t_gaps h_t_sums h_t_costs h_t_leasts 1 v_t_frames f_a1_cums f_t_gaps f_t_sums f_t_costs f_t_leasts)) hx hb hq in_wsX50 tyX5 tyX5_ok nmX5 hown hK hP hD hS 0 rfl rfl 0 (by decide) (hq _ q322) (fun _ h9 => h9) rfl (by decide +kernel) (by decide) (by decide) (Nat.le_of_ble_eq_true rfl) rfl dX5_work_111 (fun H locs hP hD hS => ?_)
  cases h
  exact kr _ _ _ _ dX5_work_114 hP hD hS
set_option maxHeartbeats 4000000 in
set_option maxRecDepth 100000 in
theorem wX5_work_j39 (p : Program) (l : Launch) (e : Env) (s : State) (m : MethodId) (args : Array Value) (below : List Frame) (meth : Method) (c : Code) (Q : State → Prop) (G : ZG) (D : va_G) (cA : Nat → ClassId) (A : Nat → Prop) (h_t h_a1 h_a1_cums h_t_gaps h_t_sums h_t_costs h_t_leasts : Nat) (f_a1_cums : Nat → Int) (x2 : Int) (N : Nat) (C : CallFix p m c cX5_work 5 s args vX5_work RX5) (hK : va_K D vwCl (zT cA) s) (hA : ∀ q, s.heap.size ≤ q → A q) (hZ : zSt G A s s.heap) (r : Int × Int × (Nat → Int) × (Nat → Int) × (Nat → Int) × (Nat → Int)) (kr : kX5_work p l e s m args below meth c Q G D cA A h_t h_a1 h_a1_cums h_t_gaps h_t_sums h_t_costs h_t_leasts f_a1_cums x2 N r) (v_t_ready : Int) (v_t_frames : Int) (f_t_gaps : Nat → Int) (f_t_sums : Nat → Int) (f_t_costs : Nat → Int) (f_t_leasts : Nat → Int) (h : fX5_work_j39 N f_a1_cums x2 v_t_ready v_t_frames f_t_gaps f_t_sums f_t_costs f_t_leasts = some r) : sX5_work_39 p l e s m args below meth c Q G D cA A h_t h_a1 h_a1_cums h_t_gaps h_t_sums h_t_costs h_t_leasts f_a1_cums x2 N v_t_ready v_t_frames f_t_gaps f_t_sums f_t_costs f_t_leasts := by
  obtain ⟨hx, hb, hml, hown, hts⟩ := id C
  have hq : ∀ w ∈ wAll, w.before args s = true := fun w h => hts w (List.mem_cons_of_mem _ h)
  intro H locs hP hD hS ls hl
  unfold fX5_work_j39 at h
  refine lv_aload_n hx hb dX5_work_39 rfl (lv_at hl 0 rfl) ?_
  refine va_get (D := D) (ci := 5) (v := .ref h_t_leasts) (C := RX5) (T := TX5) (N := 6) hx hb hq in_wsX50 hown hK hP 0 rfl rfl 5 (by decide) (hq _ q305) (fun _ h9 => h9) rfl dX5_work_40 ?_
  refine z_ldc (v := 1000000) (n := 1000000) (by decide) hx hb hown (hq _ q310) dX5_work_43 ?_
  obtain ⟨r5, e5, h⟩ := bd_some h
  refine z_callSv (G := G) (D := D) (cA := cA) (wc := (wJ7_fill_53178 cA h_t_leasts 225 f_t_leasts)) (wr := [(h_t, .inr (5, [.int (iZ v_t_ready), .int (iZ v_t_frames), .ref h_t_sums, .ref h_t_gaps, .ref h_t_costs, .ref h_t_leasts])), (h_a1, .inr (9, [.ref h_a1_cums])), (h_a1_cums, zA (cA 0) 384 f_a1_cums), (h_t_gaps, zA (cA 0) 576 f_t_gaps), (h_t_sums, zA (cA 0) 24 f_t_sums), (h_t_costs, zA (cA 0) 576 f_t_costs)]) (w1 := (wJ7_fill_53178 cA h_t_leasts 225 r5)) (ws' := (wX5_work cA h_t h_a1 h_a1_cums h_t_gaps h_t_sums h_t_costs h_t_leasts v_t_ready v_t_frames f_a1_cums f_t_gaps f_t_sums f_t_costs r5)) (As := [.ref h_t_leasts, .int (iZ 1000000)]) C hK hA hZ hP hD hS [6] [0, 1, 2, 3, 4, 5] [0, 1, 2, 3, 4, 5, 6] rfl rfl rfl (by decide) (cJ7_fill_53178_m l G D cA h_t_leasts 225 f_t_leasts 1000000 H.size N (Nat.le_of_ble_eq_true rfl) e5) (va_cwS 2 hts (gAllS q329 q14 q15 q0) rfl rfl rfl (by decide +kernel) ⟨Nat.le_of_ble_eq_true rfl, Nat.le_of_ble_eq_true rfl⟩) rfl hl.1 rfl (Nat.le_of_ble_eq_true rfl) ⟨Nat.zero_le _, Nat.zero_le _⟩ dX5_work_45 (fun H locs hP hD hS => ?_)
  refine lv_aload_n hx hb dX5_work_48 rfl (lv_at hl 0 rfl) ?_
  refine va_get (D := D) (ci := 5) (v := .ref h_t_leasts) (C := RX5) (T := TX5) (N := 6) hx hb hq in_wsX50 hown hK hP 0 rfl rfl 5 (by decide) (hq _ q305) (fun _ h9 => h9) rfl dX5_work_49 ?_
  refine lv_aload_n hx hb dX5_work_52 rfl (lv_at hl 0 rfl) ?_
  refine va_get (D := D) (ci := 5) (v := .int (iZ v_t_frames)) (C := RX5) (T := TX5) (N := 6) hx hb hq in_wsX50 hown hK hP 0 rfl rfl 1 (by decide) (hq _ q307) (fun _ h9 => h9) rfl dX5_work_53 ?_
  refine z_iconst hx hb dX5_work_56 ?_
  obtain ⟨g6, h⟩ := gd_some h
  refine z_iast (ws' := (wX5_work cA h_t h_a1 h_a1_cums h_t_gaps h_t_sums h_t_costs h_t_leasts v_t_ready v_t_frames f_a1_cums f_t_gaps f_t_sums f_t_costs (uZ r5 v_t_frames.toNat 0))) hx hb hK hP hD hS 6 0 rfl rfl (Nat.le_of_ble_eq_true rfl) g6 rfl dX5_work_57 (fun H locs hP hD hS => ?_)
  refine z_iconst hx hb dX5_work_58 ?_
  refine lv_istore_n (lv' := [(3, .int (iZ 1)), (0, .ref h_t)]) hx hb dX5_work_59 rfl hl (by decide) rfl (fun ls hl => ?_)
  exact wX5_work_L60 p l e s m args below meth c Q G D cA A h_t h_a1 h_a1_cums h_t_gaps h_t_sums h_t_costs h_t_leasts f_a1_cums x2 N C hK hA hZ r kr (fX5_work_j109 N f_a1_cums x2) (fun y0 y1 y2 y3 y4 y5 h9 => wX5_work_j109 p l e s m args below meth c Q G D cA A h_t h_a1 h_a1_cums h_t_gaps h_t_sums h_t_costs h_t_leasts f_a1_cums x2 N C hK hA hZ r kr y0 y1 y2 y3 y4 y5 h9) N 1 v_t_ready v_t_frames f_t_gaps f_t_sums f_t_costs (uZ r5 v_t_frames.toNat 0) h H locs hP hD hS ls (lv_sub hl [1, 0] rfl)
set_option maxHeartbeats 4000000 in
set_option maxRecDepth 100000 in
theorem wX5_work_E (p : Program) (l : Launch) (e : Env) (s : State) (m : MethodId) (args : Array Value) (below : List Frame) (meth : Method) (c : Code) (Q : State → Prop) (G : ZG) (D : va_G) (cA : Nat → ClassId) (A : Nat → Prop) (h_t h_a1 h_a1_cums h_t_gaps h_t_sums h_t_costs h_t_leasts : Nat) (f_a1_cums : Nat → Int) (x2 : Int) (N : Nat) (C : CallFix p m c cX5_work 5 s args vX5_work RX5) (hK : va_K D vwCl (zT cA) s) (hA : ∀ q, s.heap.size ≤ q → A q) (hZ : zSt G A s s.heap) (r : Int × Int × (Nat → Int) × (Nat → Int) × (Nat → Int) × (Nat → Int)) (kr : kX5_work p l e s m args below meth c Q G D cA A h_t h_a1 h_a1_cums h_t_gaps h_t_sums h_t_costs h_t_leasts f_a1_cums x2 N r) (v_t_ready : Int) (v_t_frames : Int) (f_t_gaps : Nat → Int) (f_t_sums : Nat → Int) (f_t_costs : Nat → Int) (f_t_leasts : Nat → Int) (h : fX5_work N f_a1_cums v_t_ready v_t_frames f_t_gaps f_t_sums f_t_costs f_t_leasts x2 = some r) (H : Heap) (locs : List Loc) (hP : va_P D vwCl (wX5_work cA h_t h_a1 h_a1_cums h_t_gaps h_t_sums h_t_costs h_t_leasts v_t_ready v_t_frames f_a1_cums f_t_gaps f_t_sums f_t_costs f_t_leasts) H) (hD : va_D A (wX5_work cA h_t h_a1 h_a1_cums h_t_gaps h_t_sums h_t_costs h_t_leasts v_t_ready v_t_frames f_a1_cums f_t_gaps f_t_sums f_t_costs f_t_leasts)) (hS : va_S A s.heap H locs) (ls : Array Slot) (hl : lv_has ls 5 [(0, .ref h_t), (1, .ref h_a1), (2, .int (iZ x2))]) : W p l e rmX5_work s m args below meth c H locs 0 0 Q (F0 m 0 ls []) := by
  obtain ⟨hx, hb, hml, hown, hts⟩ := id C
  have hq : ∀ w ∈ wAll, w.before args s = true := fun w h => hts w (List.mem_cons_of_mem _ h)
  unfold fX5_work at h
  refine lv_aload_n hx hb dX5_work_0 rfl (lv_at hl 0 rfl) ?_
  refine va_get (D := D) (ci := 5) (v := .int (iZ v_t_ready)) (C := RX5) (T := TX5) (N := 6) hx hb hq in_wsX50 hown hK hP 0 rfl rfl 0 (by decide) (hq _ q322) (fun _ h9 => h9) rfl dX5_work_1 ?_
  refine z_if_eq (tgt := 8) hx hb dX5_work_4 (by decide) (fun c1 => ?_) (fun c1 => ?_)
  · rw [if_pos c1] at h
    refine lv_aload_n hx hb dX5_work_8 rfl (lv_at hl 0 rfl) ?_
    refine lv_iload_n hx hb dX5_work_9 rfl (lv_at hl 2 rfl) ?_
    refine z_put (ci := 5) (v := .int (iZ x2)) (ty := .int) (C := RX5) (T := TX5) (N := 6) (ws' := (wX5_work cA h_t h_a1 h_a1_cums h_t_gaps h_t_sums h_t_costs h_t_leasts v_t_ready x2 f_a1_cums f_t_gaps f_t_sums f_t_costs f_t_leasts)) hx hb hq in_wsX50 tyX5 tyX5_ok nmX5 hown hK hP hD hS 0 rfl rfl 1 (by decide) (hq _ q307) (fun _ h9 => h9) rfl (by decide +kernel) rfl rfl (Nat.le_of_ble_eq_true rfl) rfl dX5_work_10 (fun H locs hP hD hS => ?_)
    refine lv_aload_n hx hb dX5_work_13 rfl (lv_at hl 0 rfl) ?_
    refine lv_aload_n hx hb dX5_work_14 rfl (lv_at hl 1 rfl) ?_
    obtain ⟨r2, e2, h⟩ := bd_some h
    refine z_callVv (G := G) (D := D) (cA := cA) (wc := (wX5_measureGaps cA h_t h_a1 h_a1_cums h_t_gaps h_t_sums h_t_costs h_t_leasts v_t_ready x2 f_a1_cums f_t_gaps)) (wr := [(h_t_sums, zA (cA 0) 24 f_t_sums), (h_t_costs, zA (cA 0) 576 f_t_costs), (h_t_leasts, zA (cA 0) 225 f_t_leasts)]) (w1 := (wX5_measureGaps cA h_t h_a1 h_a1_cums h_t_gaps h_t_sums h_t_costs h_t_leasts v_t_ready x2 f_a1_cums r2)) (ws' := (wX5_work cA h_t h_a1 h_a1_cums h_t_gaps h_t_sums h_t_costs h_t_leasts v_t_ready x2 f_a1_cums r2 f_t_sums f_t_costs f_t_leasts)) (As := [.ref h_a1]) C hK hA hZ hP hD hS [0, 1, 2, 3] [4, 5, 6] [3, 4, 5, 6, 0, 1, 2] rfl rfl rfl (by decide) (cX5_measureGaps_m l G D cA h_t h_a1 h_a1_cums h_t_gaps h_t_sums h_t_costs h_t_leasts v_t_ready x2 f_a1_cums f_t_gaps H.size N e2) (cwV 1 hts (gAllV q323 q324 q325 q317 q306) rfl rfl rfl (by decide +kernel) ⟨Nat.le_of_ble_eq_true rfl, Nat.le_of_ble_eq_true rfl⟩) 0 5 rfl rfl rfl rfl hl.1 rfl (Nat.le_of_ble_eq_true rfl) ⟨Nat.zero_le _, Nat.zero_le _⟩ dX5_work_15 (fun H locs hP hD hS => ?_)
    refine z_iconst hx hb dX5_work_18 ?_
    refine lv_istore_n (lv' := [(3, .int (iZ 0)), (0, .ref h_t), (1, .ref h_a1), (2, .int (iZ x2))]) hx hb dX5_work_19 rfl hl (by decide) rfl (fun ls hl => ?_)
    exact wX5_work_L20 p l e s m args below meth c Q G D cA A h_t h_a1 h_a1_cums h_t_gaps h_t_sums h_t_costs h_t_leasts f_a1_cums x2 N C hK hA hZ r kr (fX5_work_j39 N f_a1_cums x2) (fun y0 y1 y2 y3 y4 y5 h9 => wX5_work_j39 p l e s m args below meth c Q G D cA A h_t h_a1 h_a1_cums h_t_gaps h_t_sums h_t_costs h_t_leasts f_a1_cums x2 N C hK hA hZ r kr y0 y1 y2 y3 y4 y5 h9) N 0 v_t_ready x2 r2 f_t_sums f_t_costs f_t_leasts h H locs hP hD hS ls (lv_sub hl [1, 0] rfl)
  · rw [if_neg c1] at h
    cases h
    exact kr _ _ _ _ dX5_work_7 hP hD hS
set_option maxHeartbeats 4000000 in
set_option maxRecDepth 100000 in
theorem cX5_work_m (l : Launch) (G : ZG) (D : va_G) (cA : Nat → ClassId) (h_t h_a1 h_a1_cums h_t_gaps h_t_sums h_t_costs h_t_leasts : Nat) (v_t_ready : Int) (v_t_frames : Int) (f_a1_cums : Nat → Int) (f_t_gaps : Nat → Int) (f_t_sums : Nat → Int) (f_t_costs : Nat → Int) (f_t_leasts : Nat → Int) (x2 : Int) (sz N : Nat) {r : Int × Int × (Nat → Int) × (Nat → Int) × (Nat → Int) × (Nat → Int)} (hF : fX5_work N f_a1_cums v_t_ready v_t_frames f_t_gaps f_t_sums f_t_costs f_t_leasts x2 = some r) : zMv l yX5_work vX5_work rmX5_work G D cA [.ref h_t, .ref h_a1, .int (iZ x2)] (wX5_work cA h_t h_a1 h_a1_cums h_t_gaps h_t_sums h_t_costs h_t_leasts v_t_ready v_t_frames f_a1_cums f_t_gaps f_t_sums f_t_costs f_t_leasts) (wX5_work cA h_t h_a1 h_a1_cums h_t_gaps h_t_sums h_t_costs h_t_leasts r.1 r.2.1 f_a1_cums r.2.2.1 r.2.2.2.1 r.2.2.2.2.1 r.2.2.2.2.2) sz := by
  refine Met.ofW (cc := cX5_work) (maxL := 5) (ret := none) (by decide) rfl ?_
  intro p e s m args below meth c s₁ B hml hv
  obtain ⟨rfl, hsz, hP, hK, hD0, hZ⟩ := hv
  subst hsz
  have hlocks := B.notSynchronized
  have hl := lv_entry ([.ref h_t, .ref h_a1, .int (iZ x2)]) (n := 5) (Nat.le_of_ble_eq_true rfl)
  rw [lg_entry_eq]
  generalize (lg_sl ([.ref h_t, .ref h_a1, .int (iZ x2)]) ++ List.replicate (5 - (lg_sl ([.ref h_t, .ref h_a1, .int (iZ x2)])).length) Slot.unset).toArray = ls at hl ⊢
  exact wX5_work_E p l e s m _ below meth c _ G D cA _ h_t h_a1 h_a1_cums h_t_gaps h_t_sums h_t_costs h_t_leasts f_a1_cums x2 N ⟨B.exec, B.bytes, hml, findClass_of_methodNamed B.named, atoms_spec (ws := vX5_work) B.pre⟩ hK (fun q h => Or.inr h) hZ r (fun pc H locs ls hd hP hD hS => W.vret B.exec B.bytes B.returns (fun t ht hW => ⟨⟨(), rfl, trivial, by rw [ht]; exact hP, va_K.moved hW.alike hK, hD⟩, hS.F ht⟩) hS.2.2 hd) v_t_ready v_t_frames f_t_gaps f_t_sums f_t_costs f_t_leasts hF s.heap [] hP (hD0.self (sz := s.heap.size)) va_S.rf ls hl

/-! ===== FlickerDesk$Parting.start(II)I ===== -/
abbrev rmX5_start : Room := { frames := 2, cells := 0, slots := 0, locals := 45 }
abbrev wX5_start (cA : Nat → ClassId) (h_t h_t_costs h_t_leasts h_t_sums h_t_gaps : Nat) (v_t_ready : Int) (v_t_frames : Int) (f_t_costs : Nat → Int) (f_t_leasts : Nat → Int) : va_W := [(h_t, .inr (5, [.int (iZ v_t_ready), .int (iZ v_t_frames), .ref h_t_sums, .ref h_t_gaps, .ref h_t_costs, .ref h_t_leasts])), (h_t_costs, zA (cA 0) 576 f_t_costs), (h_t_leasts, zA (cA 0) 225 f_t_leasts)]
def fX5_start_b22 (N : Nat) (v_t_frames : Int) (f_t_costs : Nat → Int) (f_t_leasts : Nat → Int) (x1 : Int) (x2 : Int) (rec : Int → Int → Int → Int → Option (Int)) (k : Int → Int → Option (Int)) (i3 : Int) (i4 : Int) (i5 : Int) (i6 : Int) : Option (Int) := (if iZ i6 < iZ v_t_frames then ((fX5_costBy N f_t_costs f_t_leasts i5 i3 i6).bind fun r3 => ((fX5_least N f_t_leasts i5 i3).bind fun r4 => (if iZ r4 < iZ r3 then (rec i3 i4 i5 (i6 + 1)) else (k i4 i6)))) else (k i4 i6))
def fX5_start_L22 (N : Nat) (v_t_frames : Int) (f_t_costs : Nat → Int) (f_t_leasts : Nat → Int) (x1 : Int) (x2 : Int) (k : Int → Int → Option (Int)) : Nat → Int → Int → Int → Int → Option (Int)
  | 0 => fun _ _ _ _ => none
  | n + 1 => fX5_start_b22 N v_t_frames f_t_costs f_t_leasts x1 x2 (fX5_start_L22 N v_t_frames f_t_costs f_t_leasts x1 x2 k n) k
def fX5_start_j56 (N : Nat) (v_t_frames : Int) (f_t_costs : Nat → Int) (f_t_leasts : Nat → Int) (x1 : Int) (x2 : Int) (rec : Int → Int → Option (Int)) (k : Int → Option (Int)) (i4 : Int) (i6 : Int) : Option (Int) := (rec i6 (i4 + 1))
def fX5_start_b5 (N : Nat) (v_t_frames : Int) (f_t_costs : Nat → Int) (f_t_leasts : Nat → Int) (x1 : Int) (x2 : Int) (rec : Int → Int → Option (Int)) (k : Int → Option (Int)) (i3 : Int) (i4 : Int) : Option (Int) := (if iZ i4 < iZ x2 then (fX5_start_L22 N v_t_frames f_t_costs f_t_leasts x1 x2 (fX5_start_j56 N v_t_frames f_t_costs f_t_leasts x1 x2 rec k) N i3 i4 (x1 - i4) (i3 + 1)) else (k i3))
def fX5_start_L5 (N : Nat) (v_t_frames : Int) (f_t_costs : Nat → Int) (f_t_leasts : Nat → Int) (x1 : Int) (x2 : Int) (k : Int → Option (Int)) : Nat → Int → Int → Option (Int)
  | 0 => fun _ _ => none
  | n + 1 => fX5_start_b5 N v_t_frames f_t_costs f_t_leasts x1 x2 (fX5_start_L5 N v_t_frames f_t_costs f_t_leasts x1 x2 k n) k
def fX5_start_j65 (N : Nat) (v_t_frames : Int) (f_t_costs : Nat → Int) (f_t_leasts : Nat → Int) (x1 : Int) (x2 : Int) (i3 : Int) : Option (Int) := (some i3)
def fX5_start (N : Nat) (v_t_frames : Int) (f_t_costs : Nat → Int) (f_t_leasts : Nat → Int) (x1 : Int) (x2 : Int) : Option (Int) := (fX5_start_L5 N v_t_frames f_t_costs f_t_leasts x1 x2 (fX5_start_j65 N v_t_frames f_t_costs f_t_leasts x1 x2) N 0 0)
abbrev kX5_start (p : Program) (l : Launch) (e : Env) (s : State) (m : MethodId) (args : Array Value) (below : List Frame) (meth : Method) (c : Code) (Q : State → Prop) (G : ZG) (D : va_G) (cA : Nat → ClassId) (A : Nat → Prop) (h_t h_t_costs h_t_leasts h_t_sums h_t_gaps : Nat) (v_t_ready : Int) (v_t_frames : Int) (f_t_costs : Nat → Int) (f_t_leasts : Nat → Int) (x1 : Int) (x2 : Int) (N : Nat) (r : Int) : Prop := ∀ (pc : Nat) (H : Heap) (locs : List Loc) (ls : Array Slot), decode cX5_start pc = .ok (.ireturn, 1) → va_P D vwCl (wX5_start cA h_t h_t_costs h_t_leasts h_t_sums h_t_gaps v_t_ready v_t_frames f_t_costs f_t_leasts) H → va_D A (wX5_start cA h_t h_t_costs h_t_leasts h_t_sums h_t_gaps v_t_ready v_t_frames f_t_costs f_t_leasts) → va_S A s.heap H locs → W p l e rmX5_start s m args below meth c H locs 0 0 Q (F0 m pc ls [.int (iZ r)])
abbrev sX5_start_56 (p : Program) (l : Launch) (e : Env) (s : State) (m : MethodId) (args : Array Value) (below : List Frame) (meth : Method) (c : Code) (Q : State → Prop) (G : ZG) (D : va_G) (cA : Nat → ClassId) (A : Nat → Prop) (h_t h_t_costs h_t_leasts h_t_sums h_t_gaps : Nat) (v_t_ready : Int) (v_t_frames : Int) (f_t_costs : Nat → Int) (f_t_leasts : Nat → Int) (x1 : Int) (x2 : Int) (N : Nat) (i4 : Int) (i6 : Int) : Prop := ∀ (H : Heap) (locs : List Loc), va_P D vwCl (wX5_start cA h_t h_t_costs h_t_leasts h_t_sums h_t_gaps v_t_ready v_t_frames f_t_costs f_t_leasts) H → va_D A (wX5_start cA h_t h_t_costs h_t_leasts h_t_sums h_t_gaps v_t_ready v_t_frames f_t_costs f_t_leasts) → va_S A s.heap H locs → ∀ ls : Array Slot, lv_has ls 7 [(0, .ref h_t), (1, .int (iZ x1)), (2, .int (iZ x2)), (4, .int (iZ i4)), (6, .int (iZ i6))] → W p l e rmX5_start s m args below meth c H locs 0 0 Q (F0 m 56 ls [])
abbrev sX5_start_22 (p : Program) (l : Launch) (e : Env) (s : State) (m : MethodId) (args : Array Value) (below : List Frame) (meth : Method) (c : Code) (Q : State → Prop) (G : ZG) (D : va_G) (cA : Nat → ClassId) (A : Nat → Prop) (h_t h_t_costs h_t_leasts h_t_sums h_t_gaps : Nat) (v_t_ready : Int) (v_t_frames : Int) (f_t_costs : Nat → Int) (f_t_leasts : Nat → Int) (x1 : Int) (x2 : Int) (N : Nat) (i3 : Int) (i4 : Int) (i5 : Int) (i6 : Int) : Prop := ∀ (H : Heap) (locs : List Loc), va_P D vwCl (wX5_start cA h_t h_t_costs h_t_leasts h_t_sums h_t_gaps v_t_ready v_t_frames f_t_costs f_t_leasts) H → va_D A (wX5_start cA h_t h_t_costs h_t_leasts h_t_sums h_t_gaps v_t_ready v_t_frames f_t_costs f_t_leasts) → va_S A s.heap H locs → ∀ ls : Array Slot, lv_has ls 7 [(0, .ref h_t), (1, .int (iZ x1)), (2, .int (iZ x2)), (3, .int (iZ i3)), (4, .int (iZ i4)), (5, .int (iZ i5)), (6, .int (iZ i6))] → W p l e rmX5_start s m args below meth c H locs 0 0 Q (F0 m 22 ls [])
abbrev sX5_start_65 (p : Program) (l : Launch) (e : Env) (s : State) (m : MethodId) (args : Array Value) (below : List Frame) (meth : Method) (c : Code) (Q : State → Prop) (G : ZG) (D : va_G) (cA : Nat → ClassId) (A : Nat → Prop) (h_t h_t_costs h_t_leasts h_t_sums h_t_gaps : Nat) (v_t_ready : Int) (v_t_frames : Int) (f_t_costs : Nat → Int) (f_t_leasts : Nat → Int) (x1 : Int) (x2 : Int) (N : Nat) (i3 : Int) : Prop := ∀ (H : Heap) (locs : List Loc), va_P D vwCl (wX5_start cA h_t h_t_costs h_t_leasts h_t_sums h_t_gaps v_t_ready v_t_frames f_t_costs f_t_leasts) H → va_D A (wX5_start cA h_t h_t_costs h_t_leasts h_t_sums h_t_gaps v_t_ready v_t_frames f_t_costs f_t_leasts) → va_S A s.heap H locs → ∀ ls : Array Slot, lv_has ls 7 [(3, .int (iZ i3))] → W p l e rmX5_start s m args below meth c H locs 0 0 Q (F0 m 65 ls [])
abbrev sX5_start_5 (p : Program) (l : Launch) (e : Env) (s : State) (m : MethodId) (args : Array Value) (below : List Frame) (meth : Method) (c : Code) (Q : State → Prop) (G : ZG) (D : va_G) (cA : Nat → ClassId) (A : Nat → Prop) (h_t h_t_costs h_t_leasts h_t_sums h_t_gaps : Nat) (v_t_ready : Int) (v_t_frames : Int) (f_t_costs : Nat → Int) (f_t_leasts : Nat → Int) (x1 : Int) (x2 : Int) (N : Nat) (i3 : Int) (i4 : Int) : Prop := ∀ (H : Heap) (locs : List Loc), va_P D vwCl (wX5_start cA h_t h_t_costs h_t_leasts h_t_sums h_t_gaps v_t_ready v_t_frames f_t_costs f_t_leasts) H → va_D A (wX5_start cA h_t h_t_costs h_t_leasts h_t_sums h_t_gaps v_t_ready v_t_frames f_t_costs f_t_leasts) → va_S A s.heap H locs → ∀ ls : Array Slot, lv_has ls 7 [(0, .ref h_t), (1, .int (iZ x1)), (2, .int (iZ x2)), (3, .int (iZ i3)), (4, .int (iZ i4))] → W p l e rmX5_start s m args below meth c H locs 0 0 Q (F0 m 5 ls [])
set_option maxHeartbeats 4000000 in
set_option maxRecDepth 100000 in
theorem wX5_start_b22 (p : Program) (l : Launch) (e : Env) (s : State) (m : MethodId) (args : Array Value) (below : List Frame) (meth : Method) (c : Code) (Q : State → Prop) (G : ZG) (D : va_G) (cA : Nat → ClassId) (A : Nat → Prop) (h_t h_t_costs h_t_leasts h_t_sums h_t_gaps : Nat) (v_t_ready : Int) (v_t_frames : Int) (f_t_costs : Nat → Int) (f_t_leasts : Nat → Int) (x1 : Int) (x2 : Int) (N : Nat) (C : CallFix p m c cX5_start 7 s args vX5_start RX5) (hK : va_K D vwCl (zT cA) s) (hA : ∀ q, s.heap.size ≤ q → A q) (hZ : zSt G A s s.heap) (r : Int) (kr : kX5_start p l e s m args below meth c Q G D cA A h_t h_t_costs h_t_leasts h_t_sums h_t_gaps v_t_ready v_t_frames f_t_costs f_t_leasts x1 x2 N r) (rec : Int → Int → Int → Int → Option (Int)) (k : Int → Int → Option (Int)) (hrec : ∀ (i3 : Int) (i4 : Int) (i5 : Int) (i6 : Int), rec i3 i4 i5 i6 = some r → sX5_start_22 p l e s m args below meth c Q G D cA A h_t h_t_costs h_t_leasts h_t_sums h_t_gaps v_t_ready v_t_frames f_t_costs f_t_leasts x1 x2 N i3 i4 i5 i6) (hk : ∀ (i4 : Int) (i6 : Int), k i4 i6 = some r → sX5_start_56 p l e s m args below meth c Q G D cA A h_t h_t_costs h_t_leasts h_t_sums h_t_gaps v_t_ready v_t_frames f_t_costs f_t_leasts x1 x2 N i4 i6) (i3 : Int) (i4 : Int) (i5 : Int) (i6 : Int) (h : fX5_start_b22 N v_t_frames f_t_costs f_t_leasts x1 x2 rec k i3 i4 i5 i6 = some r) : sX5_start_22 p l e s m args below meth c Q G D cA A h_t h_t_costs h_t_leasts h_t_sums h_t_gaps v_t_ready v_t_frames f_t_costs f_t_leasts x1 x2 N i3 i4 i5 i6 := by
  obtain ⟨hx, hb, hml, hown, hts⟩ := id C
  have hq : ∀ w ∈ wAll, w.before args s = true := fun w h => hts w (List.mem_cons_of_mem _ h)
  intro H locs hP hD hS ls hl
  unfold fX5_start_b22 at h
  refine lv_iload hx hb dX5_start_22 (lv_at hl 6 rfl) ?_
  refine lv_aload_n hx hb dX5_start_24 rfl (lv_at hl 0 rfl) ?_
  refine va_get (D := D) (ci := 5) (v := .int (iZ v_t_frames)) (C := RX5) (T := TX5) (N := 6) hx hb hq in_wsX50 hown hK hP 0 rfl rfl 1 (by decide) (hq _ q307) (fun _ h9 => h9) rfl dX5_start_25 ?_
  refine z_icmp_ge (tgt := 56) hx hb dX5_start_28 (by decide) (fun c2 => ?_) (fun c2 => ?_)
  · rw [if_neg c2] at h
    exact hk i4 i6 h H locs hP hD hS ls (lv_sub hl [0, 1, 2, 4, 6] rfl)
  · rw [if_pos c2] at h
    refine lv_aload_n hx hb dX5_start_31 rfl (lv_at hl 0 rfl) ?_
    refine lv_iload hx hb dX5_start_32 (lv_at hl 5 rfl) ?_
    refine lv_iload_n hx hb dX5_start_34 rfl (lv_at hl 3 rfl) ?_
    refine lv_iload hx hb dX5_start_35 (lv_at hl 6 rfl) ?_
    obtain ⟨r3, e3, h⟩ := bd_some h
    refine z_callVi (G := G) (D := D) (cA := cA) (wc := (wX5_costBy cA h_t h_t_costs h_t_leasts h_t_sums h_t_gaps v_t_ready v_t_frames f_t_costs f_t_leasts)) (wr := []) (w1 := (wX5_costBy cA h_t h_t_costs h_t_leasts h_t_sums h_t_gaps v_t_ready v_t_frames f_t_costs f_t_leasts)) (ws' := (wX5_start cA h_t h_t_costs h_t_leasts h_t_sums h_t_gaps v_t_ready v_t_frames f_t_costs f_t_leasts)) (r := r3) (As := [.int (iZ i5), .int (iZ i3), .int (iZ i6)]) C hK hA hZ hP hD hS [0, 1, 2] [] [0, 1, 2] rfl rfl rfl (by decide) (cX5_costBy_m l G D cA h_t h_t_costs h_t_leasts h_t_sums h_t_gaps v_t_ready v_t_frames f_t_costs f_t_leasts i5 i3 i6 H.size N e3) (cwV 3 hts (gAllV q319 q320 q321 q317 q313) rfl rfl rfl (by decide +kernel) ⟨Nat.le_of_ble_eq_true rfl, Nat.le_of_ble_eq_true rfl⟩) 0 5 rfl rfl rfl rfl hl.1 rfl (Nat.le_of_ble_eq_true rfl) ⟨Nat.zero_le _, Nat.zero_le _⟩ dX5_start_37 (fun H locs hP hD hS => ?_)
    refine lv_aload_n hx hb dX5_start_40 rfl (lv_at hl 0 rfl) ?_
    refine lv_iload hx hb dX5_start_41 (lv_at hl 5 rfl) ?_
    refine lv_iload_n hx hb dX5_start_43 rfl (lv_at hl 3 rfl) ?_
    obtain ⟨r4, e4, h⟩ := bd_some h
    refine z_callVi (G := G) (D := D) (cA := cA) (wc := (wX5_least cA h_t h_t_leasts h_t_sums h_t_gaps h_t_costs v_t_ready v_t_frames f_t_leasts)) (wr := [(h_t_costs, zA (cA 0) 576 f_t_costs)]) (w1 := (wX5_least cA h_t h_t_leasts h_t_sums h_t_gaps h_t_costs v_t_ready v_t_frames f_t_leasts)) (ws' := (wX5_start cA h_t h_t_costs h_t_leasts h_t_sums h_t_gaps v_t_ready v_t_frames f_t_costs f_t_leasts)) (r := r4) (As := [.int (iZ i5), .int (iZ i3)]) C hK hA hZ hP hD hS [0, 2] [1] [1, 0, 2] rfl rfl rfl (by decide) (cX5_least_m l G D cA h_t h_t_leasts h_t_sums h_t_gaps h_t_costs v_t_ready v_t_frames f_t_leasts i5 i3 H.size N e4) (cwV 2 hts (gAllV q314 q315 q316 q317 q312) rfl rfl rfl (by decide +kernel) ⟨Nat.le_of_ble_eq_true rfl, Nat.le_of_ble_eq_true rfl⟩) 0 5 rfl rfl rfl rfl hl.1 rfl (Nat.le_of_ble_eq_true rfl) ⟨Nat.zero_le _, Nat.zero_le _⟩ dX5_start_44 (fun H locs hP hD hS => ?_)
    refine z_icmp_le (tgt := 56) hx hb dX5_start_47 (by decide) (fun c5 => ?_) (fun c5 => ?_)
    · rw [if_neg c5] at h
      exact hk i4 i6 h H locs hP hD hS ls (lv_sub hl [0, 1, 2, 4, 6] rfl)
    · rw [if_pos c5] at h
      refine z_iinc (lv' := [(6, .int (iZ (i6 + 1))), (0, .ref h_t), (1, .int (iZ x1)), (2, .int (iZ x2)), (3, .int (iZ i3)), (4, .int (iZ i4)), (5, .int (iZ i5))]) hx hb dX5_start_50 hl (k := 6) rfl (by decide) rfl (fun ls hl => ?_)
      refine lv_goto (tgt := 22) hx hb dX5_start_53 (by decide) ?_
      exact hrec i3 i4 i5 (i6 + 1) h H locs hP hD hS ls (lv_sub hl [1, 2, 3, 4, 5, 6, 0] rfl)
theorem wX5_start_L22 (p : Program) (l : Launch) (e : Env) (s : State) (m : MethodId) (args : Array Value) (below : List Frame) (meth : Method) (c : Code) (Q : State → Prop) (G : ZG) (D : va_G) (cA : Nat → ClassId) (A : Nat → Prop) (h_t h_t_costs h_t_leasts h_t_sums h_t_gaps : Nat) (v_t_ready : Int) (v_t_frames : Int) (f_t_costs : Nat → Int) (f_t_leasts : Nat → Int) (x1 : Int) (x2 : Int) (N : Nat) (C : CallFix p m c cX5_start 7 s args vX5_start RX5) (hK : va_K D vwCl (zT cA) s) (hA : ∀ q, s.heap.size ≤ q → A q) (hZ : zSt G A s s.heap) (r : Int) (kr : kX5_start p l e s m args below meth c Q G D cA A h_t h_t_costs h_t_leasts h_t_sums h_t_gaps v_t_ready v_t_frames f_t_costs f_t_leasts x1 x2 N r) (k : Int → Int → Option (Int)) (hk : ∀ (i4 : Int) (i6 : Int), k i4 i6 = some r → sX5_start_56 p l e s m args below meth c Q G D cA A h_t h_t_costs h_t_leasts h_t_sums h_t_gaps v_t_ready v_t_frames f_t_costs f_t_leasts x1 x2 N i4 i6) : ∀ (n : Nat) (i3 : Int) (i4 : Int) (i5 : Int) (i6 : Int), fX5_start_L22 N v_t_frames f_t_costs f_t_leasts x1 x2 k n i3 i4 i5 i6 = some r → sX5_start_22 p l e s m args below meth c Q G D cA A h_t h_t_costs h_t_leasts h_t_sums h_t_gaps v_t_ready v_t_frames f_t_costs f_t_leasts x1 x2 N i3 i4 i5 i6 := by
  intro n
  induction n with
  | zero =>
    intro i3 i4 i5 i6 h
    have h : none = some r := h
    cases h
  | succ n ih =>
    intro i3 i4 i5 i6 h
    exact wX5_start_b22 p l e s m args below meth c Q G D cA A h_t h_t_costs h_t_leasts h_t_sums h_t_gaps v_t_ready v_t_frames f_t_costs f_t_leasts x1 x2 N C hK hA hZ r kr (fX5_start_L22 N v_t_frames f_t_costs f_t_leasts x1 x2 k n) k ih hk i3 i4 i5 i6 h
set_option maxHeartbeats 4000000 in
set_option maxRecDepth 100000 in
theorem wX5_start_j56 (p : Program) (l : Launch) (e : Env) (s : State) (m : MethodId) (args : Array Value) (below : List Frame) (meth : Method) (c : Code) (Q : State → Prop) (G : ZG) (D : va_G) (cA : Nat → ClassId) (A : Nat → Prop) (h_t h_t_costs h_t_leasts h_t_sums h_t_gaps : Nat) (v_t_ready : Int) (v_t_frames : Int) (f_t_costs : Nat → Int) (f_t_leasts : Nat → Int) (x1 : Int) (x2 : Int) (N : Nat) (C : CallFix p m c cX5_start 7 s args vX5_start RX5) (hK : va_K D vwCl (zT cA) s) (hA : ∀ q, s.heap.size ≤ q → A q) (hZ : zSt G A s s.heap) (r : Int) (kr : kX5_start p l e s m args below meth c Q G D cA A h_t h_t_costs h_t_leasts h_t_sums h_t_gaps v_t_ready v_t_frames f_t_costs f_t_leasts x1 x2 N r) (rec : Int → Int → Option (Int)) (k : Int → Option (Int)) (hrec : ∀ (i3 : Int) (i4 : Int), rec i3 i4 = some r → sX5_start_5 p l e s m args below meth c Q G D cA A h_t h_t_costs h_t_leasts h_t_sums h_t_gaps v_t_ready v_t_frames f_t_costs f_t_leasts x1 x2 N i3 i4) (hk : ∀ (i3 : Int), k i3 = some r → sX5_start_65 p l e s m args below meth c Q G D cA A h_t h_t_costs h_t_leasts h_t_sums h_t_gaps v_t_ready v_t_frames f_t_costs f_t_leasts x1 x2 N i3) (i4 : Int) (i6 : Int) (h : fX5_start_j56 N v_t_frames f_t_costs f_t_leasts x1 x2 rec k i4 i6 = some r) : sX5_start_56 p l e s m args below meth c Q G D cA A h_t h_t_costs h_t_leasts h_t_sums h_t_gaps v_t_ready v_t_frames f_t_costs f_t_leasts x1 x2 N i4 i6 := by
  obtain ⟨hx, hb, hml, hown, hts⟩ := id C
  have hq : ∀ w ∈ wAll, w.before args s = true := fun w h => hts w (List.mem_cons_of_mem _ h)
  intro H locs hP hD hS ls hl
  unfold fX5_start_j56 at h
  refine lv_iload hx hb dX5_start_56 (lv_at hl 4 rfl) ?_
  refine lv_istore_n (lv' := [(3, .int (iZ i6)), (0, .ref h_t), (1, .int (iZ x1)), (2, .int (iZ x2)), (4, .int (iZ i4)), (6, .int (iZ i6))]) hx hb dX5_start_58 rfl hl (by decide) rfl (fun ls hl => ?_)
  refine z_iinc (lv' := [(4, .int (iZ (i4 + 1))), (3, .int (iZ i6)), (0, .ref h_t), (1, .int (iZ x1)), (2, .int (iZ x2)), (6, .int (iZ i6))]) hx hb dX5_start_59 hl (k := 4) rfl (by decide) rfl (fun ls hl => ?_)
  refine lv_goto (tgt := 5) hx hb dX5_start_62 (by decide) ?_
  exact hrec i6 (i4 + 1) h H locs hP hD hS ls (lv_sub hl [2, 3, 4, 1, 0] rfl)
set_option maxHeartbeats 4000000 in
set_option maxRecDepth 100000 in
theorem wX5_start_b5 (p : Program) (l : Launch) (e : Env) (s : State) (m : MethodId) (args : Array Value) (below : List Frame) (meth : Method) (c : Code) (Q : State → Prop) (G : ZG) (D : va_G) (cA : Nat → ClassId) (A : Nat → Prop) (h_t h_t_costs h_t_leasts h_t_sums h_t_gaps : Nat) (v_t_ready : Int) (v_t_frames : Int) (f_t_costs : Nat → Int) (f_t_leasts : Nat → Int) (x1 : Int) (x2 : Int) (N : Nat) (C : CallFix p m c cX5_start 7 s args vX5_start RX5) (hK : va_K D vwCl (zT cA) s) (hA : ∀ q, s.heap.size ≤ q → A q) (hZ : zSt G A s s.heap) (r : Int) (kr : kX5_start p l e s m args below meth c Q G D cA A h_t h_t_costs h_t_leasts h_t_sums h_t_gaps v_t_ready v_t_frames f_t_costs f_t_leasts x1 x2 N r) (rec : Int → Int → Option (Int)) (k : Int → Option (Int)) (hrec : ∀ (i3 : Int) (i4 : Int), rec i3 i4 = some r → sX5_start_5 p l e s m args below meth c Q G D cA A h_t h_t_costs h_t_leasts h_t_sums h_t_gaps v_t_ready v_t_frames f_t_costs f_t_leasts x1 x2 N i3 i4) (hk : ∀ (i3 : Int), k i3 = some r → sX5_start_65 p l e s m args below meth c Q G D cA A h_t h_t_costs h_t_leasts h_t_sums h_t_gaps v_t_ready v_t_frames f_t_costs f_t_leasts x1 x2 N i3) (i3 : Int) (i4 : Int) (h : fX5_start_b5 N v_t_frames f_t_costs f_t_leasts x1 x2 rec k i3 i4 = some r) : sX5_start_5 p l e s m args below meth c Q G D cA A h_t h_t_costs h_t_leasts h_t_sums h_t_gaps v_t_ready v_t_frames f_t_costs f_t_leasts x1 x2 N i3 i4 := by
  obtain ⟨hx, hb, hml, hown, hts⟩ := id C
  have hq : ∀ w ∈ wAll, w.before args s = true := fun w h => hts w (List.mem_cons_of_mem _ h)
  intro H locs hP hD hS ls hl
  unfold fX5_start_b5 at h
  refine lv_iload hx hb dX5_start_5 (lv_at hl 4 rfl) ?_
  refine lv_iload_n hx hb dX5_start_7 rfl (lv_at hl 2 rfl) ?_
  refine z_icmp_ge (tgt := 65) hx hb dX5_start_8 (by decide) (fun c1 => ?_) (fun c1 => ?_)
  · rw [if_neg c1] at h
    exact hk i3 h H locs hP hD hS ls (lv_sub hl [3] rfl)
  · rw [if_pos c1] at h
    refine lv_iload_n hx hb dX5_start_11 rfl (lv_at hl 1 rfl) ?_
    refine lv_iload hx hb dX5_start_12 (lv_at hl 4 rfl) ?_
    refine z_isub hx hb dX5_start_14 ?_
    refine lv_istore (lv' := [(5, .int (iZ (x1 - i4))), (0, .ref h_t), (1, .int (iZ x1)), (2, .int (iZ x2)), (3, .int (iZ i3)), (4, .int (iZ i4))]) hx hb dX5_start_15 hl (by decide) rfl (fun ls hl => ?_)
    refine lv_iload_n hx hb dX5_start_17 rfl (lv_at hl 4 rfl) ?_
    refine z_iconst hx hb dX5_start_18 ?_
    refine z_iadd hx hb dX5_start_19 ?_
    refine lv_istore (lv' := [(6, .int (iZ (i3 + 1))), (5, .int (iZ (x1 - i4))), (0, .ref h_t), (1, .int (iZ x1)), (2, .int (iZ x2)), (3, .int (iZ i3)), (4, .int (iZ i4))]) hx hb dX5_start_20 hl (by decide) rfl (fun ls hl => ?_)
    exact wX5_start_L22 p l e s m args below meth c Q G D cA A h_t h_t_costs h_t_leasts h_t_sums h_t_gaps v_t_ready v_t_frames f_t_costs f_t_leasts x1 x2 N C hK hA hZ r kr (fX5_start_j56 N v_t_frames f_t_costs f_t_leasts x1 x2 rec k) (fun y0 y1 h9 => wX5_start_j56 p l e s m args below meth c Q G D cA A h_t h_t_costs h_t_leasts h_t_sums h_t_gaps v_t_ready v_t_frames f_t_costs f_t_leasts x1 x2 N C hK hA hZ r kr rec k hrec hk y0 y1 h9) N i3 i4 (x1 - i4) (i3 + 1) h H locs hP hD hS ls (lv_sub hl [2, 3, 4, 5, 6, 1, 0] rfl)
theorem wX5_start_L5 (p : Program) (l : Launch) (e : Env) (s : State) (m : MethodId) (args : Array Value) (below : List Frame) (meth : Method) (c : Code) (Q : State → Prop) (G : ZG) (D : va_G) (cA : Nat → ClassId) (A : Nat → Prop) (h_t h_t_costs h_t_leasts h_t_sums h_t_gaps : Nat) (v_t_ready : Int) (v_t_frames : Int) (f_t_costs : Nat → Int) (f_t_leasts : Nat → Int) (x1 : Int) (x2 : Int) (N : Nat) (C : CallFix p m c cX5_start 7 s args vX5_start RX5) (hK : va_K D vwCl (zT cA) s) (hA : ∀ q, s.heap.size ≤ q → A q) (hZ : zSt G A s s.heap) (r : Int) (kr : kX5_start p l e s m args below meth c Q G D cA A h_t h_t_costs h_t_leasts h_t_sums h_t_gaps v_t_ready v_t_frames f_t_costs f_t_leasts x1 x2 N r) (k : Int → Option (Int)) (hk : ∀ (i3 : Int), k i3 = some r → sX5_start_65 p l e s m args below meth c Q G D cA A h_t h_t_costs h_t_leasts h_t_sums h_t_gaps v_t_ready v_t_frames f_t_costs f_t_leasts x1 x2 N i3) : ∀ (n : Nat) (i3 : Int) (i4 : Int), fX5_start_L5 N v_t_frames f_t_costs f_t_leasts x1 x2 k n i3 i4 = some r → sX5_start_5 p l e s m args below meth c Q G D cA A h_t h_t_costs h_t_leasts h_t_sums h_t_gaps v_t_ready v_t_frames f_t_costs f_t_leasts x1 x2 N i3 i4 := by
  intro n
  induction n with
  | zero =>
    intro i3 i4 h
    have h : none = some r := h
    cases h
  | succ n ih =>
    intro i3 i4 h
    exact wX5_start_b5 p l e s m args below meth c Q G D cA A h_t h_t_costs h_t_leasts h_t_sums h_t_gaps v_t_ready v_t_frames f_t_costs f_t_leasts x1 x2 N C hK hA hZ r kr (fX5_start_L5 N v_t_frames f_t_costs f_t_leasts x1 x2 k n) k ih hk i3 i4 h
set_option maxHeartbeats 4000000 in
set_option maxRecDepth 100000 in
theorem wX5_start_j65 (p : Program) (l : Launch) (e : Env) (s : State) (m : MethodId) (args : Array Value) (below : List Frame) (meth : Method) (c : Code) (Q : State → Prop) (G : ZG) (D : va_G) (cA : Nat → ClassId) (A : Nat → Prop) (h_t h_t_costs h_t_leasts h_t_sums h_t_gaps : Nat) (v_t_ready : Int) (v_t_frames : Int) (f_t_costs : Nat → Int) (f_t_leasts : Nat → Int) (x1 : Int) (x2 : Int) (N : Nat) (C : CallFix p m c cX5_start 7 s args vX5_start RX5) (hK : va_K D vwCl (zT cA) s) (hA : ∀ q, s.heap.size ≤ q → A q) (hZ : zSt G A s s.heap) (r : Int) (kr : kX5_start p l e s m args below meth c Q G D cA A h_t h_t_costs h_t_leasts h_t_sums h_t_gaps v_t_ready v_t_frames f_t_costs f_t_leasts x1 x2 N r) (i3 : Int) (h : fX5_start_j65 N v_t_frames f_t_costs f_t_leasts x1 x2 i3 = some r) : sX5_start_65 p l e s m args below meth c Q G D cA A h_t h_t_costs h_t_leasts h_t_sums h_t_gaps v_t_ready v_t_frames f_t_costs f_t_leasts x1 x2 N i3 := by
  obtain ⟨hx, hb, hml, hown, hts⟩ := id C
  have hq : ∀ w ∈ wAll, w.before args s = true := fun w h => hts w (List.mem_cons_of_mem _ h)
  intro H locs hP hD hS ls hl
  unfold fX5_start_j65 at h
  refine lv_iload_n hx hb dX5_start_65 rfl (lv_at hl 0 rfl) ?_
  cases h
  exact kr _ _ _ _ dX5_start_66 hP hD hS
set_option maxHeartbeats 4000000 in
set_option maxRecDepth 100000 in
theorem wX5_start_E (p : Program) (l : Launch) (e : Env) (s : State) (m : MethodId) (args : Array Value) (below : List Frame) (meth : Method) (c : Code) (Q : State → Prop) (G : ZG) (D : va_G) (cA : Nat → ClassId) (A : Nat → Prop) (h_t h_t_costs h_t_leasts h_t_sums h_t_gaps : Nat) (v_t_ready : Int) (v_t_frames : Int) (f_t_costs : Nat → Int) (f_t_leasts : Nat → Int) (x1 : Int) (x2 : Int) (N : Nat) (C : CallFix p m c cX5_start 7 s args vX5_start RX5) (hK : va_K D vwCl (zT cA) s) (hA : ∀ q, s.heap.size ≤ q → A q) (hZ : zSt G A s s.heap) (r : Int) (kr : kX5_start p l e s m args below meth c Q G D cA A h_t h_t_costs h_t_leasts h_t_sums h_t_gaps v_t_ready v_t_frames f_t_costs f_t_leasts x1 x2 N r) (h : fX5_start N v_t_frames f_t_costs f_t_leasts x1 x2 = some r) (H : Heap) (locs : List Loc) (hP : va_P D vwCl (wX5_start cA h_t h_t_costs h_t_leasts h_t_sums h_t_gaps v_t_ready v_t_frames f_t_costs f_t_leasts) H) (hD : va_D A (wX5_start cA h_t h_t_costs h_t_leasts h_t_sums h_t_gaps v_t_ready v_t_frames f_t_costs f_t_leasts)) (hS : va_S A s.heap H locs) (ls : Array Slot) (hl : lv_has ls 7 [(0, .ref h_t), (1, .int (iZ x1)), (2, .int (iZ x2))]) : W p l e rmX5_start s m args below meth c H locs 0 0 Q (F0 m 0 ls []) := by
  obtain ⟨hx, hb, hml, hown, hts⟩ := id C
  have hq : ∀ w ∈ wAll, w.before args s = true := fun w h => hts w (List.mem_cons_of_mem _ h)
  unfold fX5_start at h
  refine z_iconst hx hb dX5_start_0 ?_
  refine lv_istore_n (lv' := [(3, .int (iZ 0)), (0, .ref h_t), (1, .int (iZ x1)), (2, .int (iZ x2))]) hx hb dX5_start_1 rfl hl (by decide) rfl (fun ls hl => ?_)
  refine z_iconst hx hb dX5_start_2 ?_
  refine lv_istore (lv' := [(4, .int (iZ 0)), (3, .int (iZ 0)), (0, .ref h_t), (1, .int (iZ x1)), (2, .int (iZ x2))]) hx hb dX5_start_3 hl (by decide) rfl (fun ls hl => ?_)
  exact wX5_start_L5 p l e s m args below meth c Q G D cA A h_t h_t_costs h_t_leasts h_t_sums h_t_gaps v_t_ready v_t_frames f_t_costs f_t_leasts x1 x2 N C hK hA hZ r kr (fX5_start_j65 N v_t_frames f_t_costs f_t_leasts x1 x2) (fun y0 h9 => wX5_start_j65 p l e s m args below meth c Q G D cA A h_t h_t_costs h_t_leasts h_t_sums h_t_gaps v_t_ready v_t_frames f_t_costs f_t_leasts x1 x2 N C hK hA hZ r kr y0 h9) N 0 0 h H locs hP hD hS ls (lv_sub hl [2, 3, 4, 1, 0] rfl)
set_option maxHeartbeats 4000000 in
set_option maxRecDepth 100000 in
theorem cX5_start_m (l : Launch) (G : ZG) (D : va_G) (cA : Nat → ClassId) (h_t h_t_costs h_t_leasts h_t_sums h_t_gaps : Nat) (v_t_ready : Int) (v_t_frames : Int) (f_t_costs : Nat → Int) (f_t_leasts : Nat → Int) (x1 : Int) (x2 : Int) (sz N : Nat) {r : Int} (hF : fX5_start N v_t_frames f_t_costs f_t_leasts x1 x2 = some r) : zMi l yX5_start vX5_start rmX5_start G D cA [.ref h_t, .int (iZ x1), .int (iZ x2)] (wX5_start cA h_t h_t_costs h_t_leasts h_t_sums h_t_gaps v_t_ready v_t_frames f_t_costs f_t_leasts) (wX5_start cA h_t h_t_costs h_t_leasts h_t_sums h_t_gaps v_t_ready v_t_frames f_t_costs f_t_leasts) r sz := by
  refine Met.ofW (cc := cX5_start) (maxL := 7) (ret := (some .int)) (by decide) rfl ?_
  intro p e s m args below meth c s₁ B hml hv
  obtain ⟨rfl, hsz, hP, hK, hD0, hZ⟩ := hv
  subst hsz
  have hlocks := B.notSynchronized
  have hl := lv_entry ([.ref h_t, .int (iZ x1), .int (iZ x2)]) (n := 7) (Nat.le_of_ble_eq_true rfl)
  rw [lg_entry_eq]
  generalize (lg_sl ([.ref h_t, .int (iZ x1), .int (iZ x2)]) ++ List.replicate (7 - (lg_sl ([.ref h_t, .int (iZ x1), .int (iZ x2)])).length) Slot.unset).toArray = ls at hl ⊢
  exact wX5_start_E p l e s m _ below meth c _ G D cA _ h_t h_t_costs h_t_leasts h_t_sums h_t_gaps v_t_ready v_t_frames f_t_costs f_t_leasts x1 x2 N ⟨B.exec, B.bytes, hml, findClass_of_methodNamed B.named, atoms_spec (ws := vX5_start) B.pre⟩ hK (fun q h => Or.inr h) hZ r (fun pc H locs ls hd hP hD hS => W.iret B.exec B.bytes B.returns (fun t ht hW => ⟨⟨_, (), rfl, rfl, by rw [ht]; exact hP, va_K.moved hW.alike hK, hD⟩, hS.F ht⟩) hS.2.2 hd) hF s.heap [] hP (hD0.self (sz := s.heap.size)) va_S.rf ls hl
