/-! ===== FlickerDesk$Tally() ===== -/
abbrev rmX9_init : Room := { frames := 1, cells := 1, slots := 384, locals := 12 }
abbrev wX9_init (cA : Nat → ClassId) (h : Nat) (u : Nat → Nat) : va_W := [(h, .inr (9, [.ref (u 0)])), ((u 0), zA (cA 0) 384 (fun _ => 0))]
set_option maxHeartbeats 4000000 in
set_option maxRecDepth 100000 in
theorem cX9_init_m (l : Launch) (G : ZG) (D : va_G) (cA : Nat → ClassId) (h sz : Nat) : zMc l yX9_init vX9_init rmX9_init G D cA h [(h, .inr (9, [.null]))] (wX9_init cA h) 1 384 sz := by
  refine Met.ofW (cc := cX9_init) (maxL := 1) (ret := none) (by decide) rfl ?_
  intro p e s m args below meth c s₁ B hml hv
  obtain ⟨rfl, ⟨hsz, hP, hK, hD0, hZ⟩, hN⟩ := hv
  subst hsz
  have hlocks := B.notSynchronized
  have hl := lv_entry ([.ref h]) (n := 1) (Nat.le_of_ble_eq_true rfl)
  rw [lg_entry_eq]
  generalize (lg_sl ([.ref h]) ++ List.replicate (1 - (lg_sl ([.ref h])).length) Slot.unset).toArray = ls at hl ⊢
  have hl : lv_has ls 1 [(0, .ref h)] := hl
  have hx := B.exec
  have hb := B.bytes
  have hts := atoms_spec (ws := vX9_init) B.pre
  have hown : s.vm.findClass RX9 = some m.cls := findClass_of_methodNamed B.named
  have hin : meth.name = "<init>" := (name_of_methodNamed B.named B.method).1
  have hq : ∀ w ∈ wAll, w.before _ s = true := fun w h => hts w (List.mem_cons_of_mem _ h)
  have hD := hD0.self (sz := s.heap.size)
  have hS : va_S (va_A [(h, .inr (9, [.null]))] s.heap.size) s.heap s.heap [] := va_S.rf
  have hA : ∀ q, s.heap.size ≤ q → va_A [(h, .inr (9, [.null]))] s.heap.size q := fun q h => Or.inr h
  generalize hAe : va_A [(h, .inr (9, [.null]))] s.heap.size = A at hD hS hA hZ ⊢
  have C : CallFix p m c cX9_init 1 s _ vX9_init RX9 := ⟨hx, hb, hml, hown, hts⟩
  refine lv_aload_n hx hb dX9_init_0 rfl (lv_at hl 0 rfl) ?_
  refine W.objInit hx hb hown (hq _ q50) (hq _ q17) (hq _ q18) rfl (by rw [hml]; exact hl.1) rfl dX9_init_1 (Nat.le_of_ble_eq_true rfl) (Nat.le_of_ble_eq_true rfl) ?_
  refine W.eq (g2 := F0 m 4 ls []) rfl ?_
  refine lv_aload_n hx hb dX9_init_4 rfl (lv_at hl 0 rfl) ?_
  refine z_sipush hx hb dX9_init_5 (by decide) ?_
  refine z_newI (N' := 384) hx hb (hq _ q19) hK hP hD hS hA (by decide) (by decide) (by decide) (Nat.le_of_ble_eq_true rfl) (Nat.le_of_ble_eq_true rfl) dX9_init_8 (fun q1 H hP hD hS => ?_)
  have hP : va_P D vwCl [(h, .inr (9, [.null])), (q1, zA (cA 0) 384 (fun _ => 0))] H := hP
  have hD : va_D A [(h, .inr (9, [.null])), (q1, zA (cA 0) 384 (fun _ => 0))] := hD
  refine W.widen (k := 1) (n := 384) (Nat.le_of_ble_eq_true rfl) (Nat.le_of_ble_eq_true rfl) ?_
  refine z_putF (ci := 9) (v := .ref q1) (ty := (.array .int)) (C := RX9) (T := TX9) (N := 1) (ws' := [(h, .inr (9, [.ref q1])), (q1, zA (cA 0) 384 (fun _ => 0))]) hx hb hq in_wsX90 tyX9 tyX9_ok nmX9 hown hK hP hD hS 0 rfl rfl 0 (by decide) (hq _ q51) (fun _ h9 => h9) rfl hin rfl (by decide +kernel) rfl rfl (Nat.le_of_ble_eq_true rfl) rfl dX9_init_10 (fun H locs hP hD hS => ?_)
  obtain ⟨u9, hu9⟩ : ∃ u9 : Nat → Nat, u9 0 = q1 := ⟨fun k => ([q1] : List Nat).getD k 0, rfl⟩
  have hP9 := hP.sub (ws' := (wX9_init cA h u9)) [0, 1] (by simp only [wX9_init, hu9]; rfl)
  have hD9 := hD.sub (ws' := (wX9_init cA h u9)) [0, 1] (by decide) (by simp only [wX9_init, hu9]; rfl)
  exact W.vret B.exec B.bytes B.returns (fun t ht hW => ⟨⟨u9, rfl, trivial, by rw [ht]; exact hP9, va_K.moved hW.alike hK, hD9⟩, hS.F ht⟩) hS.2.2 dX9_init_13

/-! ===== FlickerDesk$Scenes() ===== -/
abbrev rmX8_init : Room := { frames := 1, cells := 3, slots := 73, locals := 12 }
abbrev wX8_init (cA : Nat → ClassId) (h : Nat) (u : Nat → Nat) : va_W := [(h, .inr (8, [.ref (u 0), .ref (u 1), .ref (u 2), .int (iZ 0)])), ((u 0), zA (cA 0) 24 (fun _ => 0)), ((u 1), zA (cA 0) 25 (fun _ => 0)), ((u 2), zA (cA 0) 24 (fun _ => 0))]
set_option maxHeartbeats 4000000 in
set_option maxRecDepth 100000 in
theorem cX8_init_m (l : Launch) (G : ZG) (D : va_G) (cA : Nat → ClassId) (h sz : Nat) : zMc l yX8_init vX8_init rmX8_init G D cA h [(h, .inr (8, [.null, .null, .null, .int (iZ 0)]))] (wX8_init cA h) 3 73 sz := by
  refine Met.ofW (cc := cX8_init) (maxL := 1) (ret := none) (by decide) rfl ?_
  intro p e s m args below meth c s₁ B hml hv
  obtain ⟨rfl, ⟨hsz, hP, hK, hD0, hZ⟩, hN⟩ := hv
  subst hsz
  have hlocks := B.notSynchronized
  have hl := lv_entry ([.ref h]) (n := 1) (Nat.le_of_ble_eq_true rfl)
  rw [lg_entry_eq]
  generalize (lg_sl ([.ref h]) ++ List.replicate (1 - (lg_sl ([.ref h])).length) Slot.unset).toArray = ls at hl ⊢
  have hl : lv_has ls 1 [(0, .ref h)] := hl
  have hx := B.exec
  have hb := B.bytes
  have hts := atoms_spec (ws := vX8_init) B.pre
  have hown : s.vm.findClass RX8 = some m.cls := findClass_of_methodNamed B.named
  have hin : meth.name = "<init>" := (name_of_methodNamed B.named B.method).1
  have hq : ∀ w ∈ wAll, w.before _ s = true := fun w h => hts w (List.mem_cons_of_mem _ h)
  have hD := hD0.self (sz := s.heap.size)
  have hS : va_S (va_A [(h, .inr (8, [.null, .null, .null, .int (iZ 0)]))] s.heap.size) s.heap s.heap [] := va_S.rf
  have hA : ∀ q, s.heap.size ≤ q → va_A [(h, .inr (8, [.null, .null, .null, .int (iZ 0)]))] s.heap.size q := fun q h => Or.inr h
  generalize hAe : va_A [(h, .inr (8, [.null, .null, .null, .int (iZ 0)]))] s.heap.size = A at hD hS hA hZ ⊢
  have C : CallFix p m c cX8_init 1 s _ vX8_init RX8 := ⟨hx, hb, hml, hown, hts⟩
  refine lv_aload_n hx hb dX8_init_0 rfl (lv_at hl 0 rfl) ?_
  refine W.objInit hx hb hown (hq _ q53) (hq _ q17) (hq _ q18) rfl (by rw [hml]; exact hl.1) rfl dX8_init_1 (Nat.le_of_ble_eq_true rfl) (Nat.le_of_ble_eq_true rfl) ?_
  refine W.eq (g2 := F0 m 4 ls []) rfl ?_
  refine lv_aload_n hx hb dX8_init_4 rfl (lv_at hl 0 rfl) ?_
  refine z_bipush hx hb dX8_init_5 (by decide) ?_
  refine z_newI (N' := 24) hx hb (hq _ q19) hK hP hD hS hA (by decide) (by decide) (by decide) (Nat.le_of_ble_eq_true rfl) (Nat.le_of_ble_eq_true rfl) dX8_init_7 (fun q1 H hP hD hS => ?_)
  have hP : va_P D vwCl [(h, .inr (8, [.null, .null, .null, .int (iZ 0)])), (q1, zA (cA 0) 24 (fun _ => 0))] H := hP
  have hD : va_D A [(h, .inr (8, [.null, .null, .null, .int (iZ 0)])), (q1, zA (cA 0) 24 (fun _ => 0))] := hD
  refine W.widen (k := 1) (n := 24) (Nat.le_of_ble_eq_true rfl) (Nat.le_of_ble_eq_true rfl) ?_
  refine z_putF (ci := 8) (v := .ref q1) (ty := (.array .int)) (C := RX8) (T := TX8) (N := 4) (ws' := [(h, .inr (8, [.ref q1, .null, .null, .int (iZ 0)])), (q1, zA (cA 0) 24 (fun _ => 0))]) hx hb hq in_wsX80 tyX8 tyX8_ok nmX8 hown hK hP hD hS 0 rfl rfl 0 (by decide) (hq _ q54) (fun _ h9 => h9) rfl hin rfl (by decide +kernel) rfl rfl (Nat.le_of_ble_eq_true rfl) rfl dX8_init_9 (fun H locs hP hD hS => ?_)
  refine lv_aload_n hx hb dX8_init_12 rfl (lv_at hl 0 rfl) ?_
  refine z_bipush hx hb dX8_init_13 (by decide) ?_
  refine z_newI (N' := 25) hx hb (hq _ q19) hK hP hD hS hA (by decide) (by decide) (by decide) (Nat.le_of_ble_eq_true rfl) (Nat.le_of_ble_eq_true rfl) dX8_init_15 (fun q2 H hP hD hS => ?_)
  have hP : va_P D vwCl [(h, .inr (8, [.ref q1, .null, .null, .int (iZ 0)])), (q1, zA (cA 0) 24 (fun _ => 0)), (q2, zA (cA 0) 25 (fun _ => 0))] H := hP
  have hD : va_D A [(h, .inr (8, [.ref q1, .null, .null, .int (iZ 0)])), (q1, zA (cA 0) 24 (fun _ => 0)), (q2, zA (cA 0) 25 (fun _ => 0))] := hD
  refine W.widen (k := 2) (n := 49) (Nat.le_of_ble_eq_true rfl) (Nat.le_of_ble_eq_true rfl) ?_
  refine z_putF (ci := 8) (v := .ref q2) (ty := (.array .int)) (C := RX8) (T := TX8) (N := 4) (ws' := [(h, .inr (8, [.ref q1, .ref q2, .null, .int (iZ 0)])), (q1, zA (cA 0) 24 (fun _ => 0)), (q2, zA (cA 0) 25 (fun _ => 0))]) hx hb hq in_wsX80 tyX8 tyX8_ok nmX8 hown hK hP hD hS 0 rfl rfl 1 (by decide) (hq _ q55) (fun _ h9 => h9) rfl hin rfl (by decide +kernel) rfl rfl (Nat.le_of_ble_eq_true rfl) rfl dX8_init_17 (fun H locs hP hD hS => ?_)
  refine lv_aload_n hx hb dX8_init_20 rfl (lv_at hl 0 rfl) ?_
  refine z_bipush hx hb dX8_init_21 (by decide) ?_
  refine z_newI (N' := 24) hx hb (hq _ q19) hK hP hD hS hA (by decide) (by decide) (by decide) (Nat.le_of_ble_eq_true rfl) (Nat.le_of_ble_eq_true rfl) dX8_init_23 (fun q3 H hP hD hS => ?_)
  have hP : va_P D vwCl [(h, .inr (8, [.ref q1, .ref q2, .null, .int (iZ 0)])), (q1, zA (cA 0) 24 (fun _ => 0)), (q2, zA (cA 0) 25 (fun _ => 0)), (q3, zA (cA 0) 24 (fun _ => 0))] H := hP
  have hD : va_D A [(h, .inr (8, [.ref q1, .ref q2, .null, .int (iZ 0)])), (q1, zA (cA 0) 24 (fun _ => 0)), (q2, zA (cA 0) 25 (fun _ => 0)), (q3, zA (cA 0) 24 (fun _ => 0))] := hD
  refine W.widen (k := 3) (n := 73) (Nat.le_of_ble_eq_true rfl) (Nat.le_of_ble_eq_true rfl) ?_
  refine z_putF (ci := 8) (v := .ref q3) (ty := (.array .int)) (C := RX8) (T := TX8) (N := 4) (ws' := [(h, .inr (8, [.ref q1, .ref q2, .ref q3, .int (iZ 0)])), (q1, zA (cA 0) 24 (fun _ => 0)), (q2, zA (cA 0) 25 (fun _ => 0)), (q3, zA (cA 0) 24 (fun _ => 0))]) hx hb hq in_wsX80 tyX8 tyX8_ok nmX8 hown hK hP hD hS 0 rfl rfl 2 (by decide) (hq _ q56) (fun _ h9 => h9) rfl hin rfl (by decide +kernel) rfl rfl (Nat.le_of_ble_eq_true rfl) rfl dX8_init_25 (fun H locs hP hD hS => ?_)
  obtain ⟨u9, hu9⟩ : ∃ u9 : Nat → Nat, u9 0 = q1 ∧ u9 1 = q2 ∧ u9 2 = q3 := ⟨fun k => ([q1, q2, q3] : List Nat).getD k 0, rfl, rfl, rfl⟩
  have hP9 := hP.sub (ws' := (wX8_init cA h u9)) [0, 1, 2, 3] (by simp only [wX8_init, hu9]; rfl)
  have hD9 := hD.sub (ws' := (wX8_init cA h u9)) [0, 1, 2, 3] (by decide) (by simp only [wX8_init, hu9]; rfl)
  exact W.vret B.exec B.bytes B.returns (fun t ht hW => ⟨⟨u9, rfl, trivial, by rw [ht]; exact hP9, va_K.moved hW.alike hK, hD9⟩, hS.F ht⟩) hS.2.2 dX8_init_28

/-! ===== FlickerDesk$Ranks() ===== -/
abbrev rmX6_init : Room := { frames := 1, cells := 4, slots := 208, locals := 12 }
abbrev wX6_init (cA : Nat → ClassId) (h : Nat) (u : Nat → Nat) : va_W := [(h, .inr (6, [.ref (u 0), .ref (u 1), .ref (u 2), .ref (u 3), .int (iZ 0)])), ((u 0), zA (cA 0) 64 (fun _ => 0)), ((u 1), zA (cA 0) 64 (fun _ => 0)), ((u 2), zA (cA 0) 64 (fun _ => 0)), ((u 3), zA (cA 0) 16 (fun _ => 0))]
set_option maxHeartbeats 4000000 in
set_option maxRecDepth 100000 in
theorem cX6_init_m (l : Launch) (G : ZG) (D : va_G) (cA : Nat → ClassId) (h sz : Nat) : zMc l yX6_init vX6_init rmX6_init G D cA h [(h, .inr (6, [.null, .null, .null, .null, .int (iZ 0)]))] (wX6_init cA h) 4 208 sz := by
  refine Met.ofW (cc := cX6_init) (maxL := 1) (ret := none) (by decide) rfl ?_
  intro p e s m args below meth c s₁ B hml hv
  obtain ⟨rfl, ⟨hsz, hP, hK, hD0, hZ⟩, hN⟩ := hv
  subst hsz
  have hlocks := B.notSynchronized
  have hl := lv_entry ([.ref h]) (n := 1) (Nat.le_of_ble_eq_true rfl)
  rw [lg_entry_eq]
  generalize (lg_sl ([.ref h]) ++ List.replicate (1 - (lg_sl ([.ref h])).length) Slot.unset).toArray = ls at hl ⊢
  have hl : lv_has ls 1 [(0, .ref h)] := hl
  have hx := B.exec
  have hb := B.bytes
  have hts := atoms_spec (ws := vX6_init) B.pre
  have hown : s.vm.findClass RX6 = some m.cls := findClass_of_methodNamed B.named
  have hin : meth.name = "<init>" := (name_of_methodNamed B.named B.method).1
  have hq : ∀ w ∈ wAll, w.before _ s = true := fun w h => hts w (List.mem_cons_of_mem _ h)
  have hD := hD0.self (sz := s.heap.size)
  have hS : va_S (va_A [(h, .inr (6, [.null, .null, .null, .null, .int (iZ 0)]))] s.heap.size) s.heap s.heap [] := va_S.rf
  have hA : ∀ q, s.heap.size ≤ q → va_A [(h, .inr (6, [.null, .null, .null, .null, .int (iZ 0)]))] s.heap.size q := fun q h => Or.inr h
  generalize hAe : va_A [(h, .inr (6, [.null, .null, .null, .null, .int (iZ 0)]))] s.heap.size = A at hD hS hA hZ ⊢
  have C : CallFix p m c cX6_init 1 s _ vX6_init RX6 := ⟨hx, hb, hml, hown, hts⟩
  refine lv_aload_n hx hb dX6_init_0 rfl (lv_at hl 0 rfl) ?_
  refine W.objInit hx hb hown (hq _ q58) (hq _ q17) (hq _ q18) rfl (by rw [hml]; exact hl.1) rfl dX6_init_1 (Nat.le_of_ble_eq_true rfl) (Nat.le_of_ble_eq_true rfl) ?_
  refine W.eq (g2 := F0 m 4 ls []) rfl ?_
  refine lv_aload_n hx hb dX6_init_4 rfl (lv_at hl 0 rfl) ?_
  refine z_bipush hx hb dX6_init_5 (by decide) ?_
  refine z_newI (N' := 64) hx hb (hq _ q19) hK hP hD hS hA (by decide) (by decide) (by decide) (Nat.le_of_ble_eq_true rfl) (Nat.le_of_ble_eq_true rfl) dX6_init_7 (fun q1 H hP hD hS => ?_)
  have hP : va_P D vwCl [(h, .inr (6, [.null, .null, .null, .null, .int (iZ 0)])), (q1, zA (cA 0) 64 (fun _ => 0))] H := hP
  have hD : va_D A [(h, .inr (6, [.null, .null, .null, .null, .int (iZ 0)])), (q1, zA (cA 0) 64 (fun _ => 0))] := hD
  refine W.widen (k := 1) (n := 64) (Nat.le_of_ble_eq_true rfl) (Nat.le_of_ble_eq_true rfl) ?_
  refine z_putF (ci := 6) (v := .ref q1) (ty := (.array .int)) (C := RX6) (T := TX6) (N := 5) (ws' := [(h, .inr (6, [.ref q1, .null, .null, .null, .int (iZ 0)])), (q1, zA (cA 0) 64 (fun _ => 0))]) hx hb hq in_wsX60 tyX6 tyX6_ok nmX6 hown hK hP hD hS 0 rfl rfl 0 (by decide) (hq _ q59) (fun _ h9 => h9) rfl hin rfl (by decide +kernel) rfl rfl (Nat.le_of_ble_eq_true rfl) rfl dX6_init_9 (fun H locs hP hD hS => ?_)
  refine lv_aload_n hx hb dX6_init_12 rfl (lv_at hl 0 rfl) ?_
  refine z_bipush hx hb dX6_init_13 (by decide) ?_
  refine z_newI (N' := 64) hx hb (hq _ q19) hK hP hD hS hA (by decide) (by decide) (by decide) (Nat.le_of_ble_eq_true rfl) (Nat.le_of_ble_eq_true rfl) dX6_init_15 (fun q2 H hP hD hS => ?_)
  have hP : va_P D vwCl [(h, .inr (6, [.ref q1, .null, .null, .null, .int (iZ 0)])), (q1, zA (cA 0) 64 (fun _ => 0)), (q2, zA (cA 0) 64 (fun _ => 0))] H := hP
  have hD : va_D A [(h, .inr (6, [.ref q1, .null, .null, .null, .int (iZ 0)])), (q1, zA (cA 0) 64 (fun _ => 0)), (q2, zA (cA 0) 64 (fun _ => 0))] := hD
  refine W.widen (k := 2) (n := 128) (Nat.le_of_ble_eq_true rfl) (Nat.le_of_ble_eq_true rfl) ?_
  refine z_putF (ci := 6) (v := .ref q2) (ty := (.array .int)) (C := RX6) (T := TX6) (N := 5) (ws' := [(h, .inr (6, [.ref q1, .ref q2, .null, .null, .int (iZ 0)])), (q1, zA (cA 0) 64 (fun _ => 0)), (q2, zA (cA 0) 64 (fun _ => 0))]) hx hb hq in_wsX60 tyX6 tyX6_ok nmX6 hown hK hP hD hS 0 rfl rfl 1 (by decide) (hq _ q60) (fun _ h9 => h9) rfl hin rfl (by decide +kernel) rfl rfl (Nat.le_of_ble_eq_true rfl) rfl dX6_init_17 (fun H locs hP hD hS => ?_)
  refine lv_aload_n hx hb dX6_init_20 rfl (lv_at hl 0 rfl) ?_
  refine z_bipush hx hb dX6_init_21 (by decide) ?_
  refine z_newI (N' := 64) hx hb (hq _ q19) hK hP hD hS hA (by decide) (by decide) (by decide) (Nat.le_of_ble_eq_true rfl) (Nat.le_of_ble_eq_true rfl) dX6_init_23 (fun q3 H hP hD hS => ?_)
  have hP : va_P D vwCl [(h, .inr (6, [.ref q1, .ref q2, .null, .null, .int (iZ 0)])), (q1, zA (cA 0) 64 (fun _ => 0)), (q2, zA (cA 0) 64 (fun _ => 0)), (q3, zA (cA 0) 64 (fun _ => 0))] H := hP
  have hD : va_D A [(h, .inr (6, [.ref q1, .ref q2, .null, .null, .int (iZ 0)])), (q1, zA (cA 0) 64 (fun _ => 0)), (q2, zA (cA 0) 64 (fun _ => 0)), (q3, zA (cA 0) 64 (fun _ => 0))] := hD
  refine W.widen (k := 3) (n := 192) (Nat.le_of_ble_eq_true rfl) (Nat.le_of_ble_eq_true rfl) ?_
  refine z_putF (ci := 6) (v := .ref q3) (ty := (.array .int)) (C := RX6) (T := TX6) (N := 5) (ws' := [(h, .inr (6, [.ref q1, .ref q2, .ref q3, .null, .int (iZ 0)])), (q1, zA (cA 0) 64 (fun _ => 0)), (q2, zA (cA 0) 64 (fun _ => 0)), (q3, zA (cA 0) 64 (fun _ => 0))]) hx hb hq in_wsX60 tyX6 tyX6_ok nmX6 hown hK hP hD hS 0 rfl rfl 2 (by decide) (hq _ q61) (fun _ h9 => h9) rfl hin rfl (by decide +kernel) rfl rfl (Nat.le_of_ble_eq_true rfl) rfl dX6_init_25 (fun H locs hP hD hS => ?_)
  refine lv_aload_n hx hb dX6_init_28 rfl (lv_at hl 0 rfl) ?_
  refine z_bipush hx hb dX6_init_29 (by decide) ?_
  refine z_newI (N' := 16) hx hb (hq _ q19) hK hP hD hS hA (by decide) (by decide) (by decide) (Nat.le_of_ble_eq_true rfl) (Nat.le_of_ble_eq_true rfl) dX6_init_31 (fun q4 H hP hD hS => ?_)
  have hP : va_P D vwCl [(h, .inr (6, [.ref q1, .ref q2, .ref q3, .null, .int (iZ 0)])), (q1, zA (cA 0) 64 (fun _ => 0)), (q2, zA (cA 0) 64 (fun _ => 0)), (q3, zA (cA 0) 64 (fun _ => 0)), (q4, zA (cA 0) 16 (fun _ => 0))] H := hP
  have hD : va_D A [(h, .inr (6, [.ref q1, .ref q2, .ref q3, .null, .int (iZ 0)])), (q1, zA (cA 0) 64 (fun _ => 0)), (q2, zA (cA 0) 64 (fun _ => 0)), (q3, zA (cA 0) 64 (fun _ => 0)), (q4, zA (cA 0) 16 (fun _ => 0))] := hD
  refine W.widen (k := 4) (n := 208) (Nat.le_of_ble_eq_true rfl) (Nat.le_of_ble_eq_true rfl) ?_
  refine z_putF (ci := 6) (v := .ref q4) (ty := (.array .int)) (C := RX6) (T := TX6) (N := 5) (ws' := [(h, .inr (6, [.ref q1, .ref q2, .ref q3, .ref q4, .int (iZ 0)])), (q1, zA (cA 0) 64 (fun _ => 0)), (q2, zA (cA 0) 64 (fun _ => 0)), (q3, zA (cA 0) 64 (fun _ => 0)), (q4, zA (cA 0) 16 (fun _ => 0))]) hx hb hq in_wsX60 tyX6 tyX6_ok nmX6 hown hK hP hD hS 0 rfl rfl 3 (by decide) (hq _ q62) (fun _ h9 => h9) rfl hin rfl (by decide +kernel) rfl rfl (Nat.le_of_ble_eq_true rfl) rfl dX6_init_33 (fun H locs hP hD hS => ?_)
  obtain ⟨u9, hu9⟩ : ∃ u9 : Nat → Nat, u9 0 = q1 ∧ u9 1 = q2 ∧ u9 2 = q3 ∧ u9 3 = q4 := ⟨fun k => ([q1, q2, q3, q4] : List Nat).getD k 0, rfl, rfl, rfl, rfl⟩
  have hP9 := hP.sub (ws' := (wX6_init cA h u9)) [0, 1, 2, 3, 4] (by simp only [wX6_init, hu9]; rfl)
  have hD9 := hD.sub (ws' := (wX6_init cA h u9)) [0, 1, 2, 3, 4] (by decide) (by simp only [wX6_init, hu9]; rfl)
  exact W.vret B.exec B.bytes B.returns (fun t ht hW => ⟨⟨u9, rfl, trivial, by rw [ht]; exact hP9, va_K.moved hW.alike hK, hD9⟩, hS.F ht⟩) hS.2.2 dX6_init_36

/-! ===== FlickerDesk$Fit() ===== -/
abbrev rmX3_init : Room := { frames := 1, cells := 2, slots := 528, locals := 12 }
abbrev wX3_init (cA : Nat → ClassId) (h : Nat) (u : Nat → Nat) : va_W := [(h, .inr (3, [.ref (u 0), .ref (u 1)])), ((u 0), zA (cA 0) 256 (fun _ => 0)), ((u 1), zA (cA 0) 272 (fun _ => 0))]
set_option maxHeartbeats 4000000 in
set_option maxRecDepth 100000 in
theorem cX3_init_m (l : Launch) (G : ZG) (D : va_G) (cA : Nat → ClassId) (h sz : Nat) : zMc l yX3_init vX3_init rmX3_init G D cA h [(h, .inr (3, [.null, .null]))] (wX3_init cA h) 2 528 sz := by
  refine Met.ofW (cc := cX3_init) (maxL := 1) (ret := none) (by decide) rfl ?_
  intro p e s m args below meth c s₁ B hml hv
  obtain ⟨rfl, ⟨hsz, hP, hK, hD0, hZ⟩, hN⟩ := hv
  subst hsz
  have hlocks := B.notSynchronized
  have hl := lv_entry ([.ref h]) (n := 1) (Nat.le_of_ble_eq_true rfl)
  rw [lg_entry_eq]
  generalize (lg_sl ([.ref h]) ++ List.replicate (1 - (lg_sl ([.ref h])).length) Slot.unset).toArray = ls at hl ⊢
  have hl : lv_has ls 1 [(0, .ref h)] := hl
  have hx := B.exec
  have hb := B.bytes
  have hts := atoms_spec (ws := vX3_init) B.pre
  have hown : s.vm.findClass RX3 = some m.cls := findClass_of_methodNamed B.named
  have hin : meth.name = "<init>" := (name_of_methodNamed B.named B.method).1
  have hq : ∀ w ∈ wAll, w.before _ s = true := fun w h => hts w (List.mem_cons_of_mem _ h)
  have hD := hD0.self (sz := s.heap.size)
  have hS : va_S (va_A [(h, .inr (3, [.null, .null]))] s.heap.size) s.heap s.heap [] := va_S.rf
  have hA : ∀ q, s.heap.size ≤ q → va_A [(h, .inr (3, [.null, .null]))] s.heap.size q := fun q h => Or.inr h
  generalize hAe : va_A [(h, .inr (3, [.null, .null]))] s.heap.size = A at hD hS hA hZ ⊢
  have C : CallFix p m c cX3_init 1 s _ vX3_init RX3 := ⟨hx, hb, hml, hown, hts⟩
  refine lv_aload_n hx hb dX3_init_0 rfl (lv_at hl 0 rfl) ?_
  refine W.objInit hx hb hown (hq _ q260) (hq _ q17) (hq _ q18) rfl (by rw [hml]; exact hl.1) rfl dX3_init_1 (Nat.le_of_ble_eq_true rfl) (Nat.le_of_ble_eq_true rfl) ?_
  refine W.eq (g2 := F0 m 4 ls []) rfl ?_
  refine lv_aload_n hx hb dX3_init_4 rfl (lv_at hl 0 rfl) ?_
  refine z_sipush hx hb dX3_init_5 (by decide) ?_
  refine z_newI (N' := 256) hx hb (hq _ q19) hK hP hD hS hA (by decide) (by decide) (by decide) (Nat.le_of_ble_eq_true rfl) (Nat.le_of_ble_eq_true rfl) dX3_init_8 (fun q1 H hP hD hS => ?_)
  have hP : va_P D vwCl [(h, .inr (3, [.null, .null])), (q1, zA (cA 0) 256 (fun _ => 0))] H := hP
  have hD : va_D A [(h, .inr (3, [.null, .null])), (q1, zA (cA 0) 256 (fun _ => 0))] := hD
  refine W.widen (k := 1) (n := 256) (Nat.le_of_ble_eq_true rfl) (Nat.le_of_ble_eq_true rfl) ?_
  refine z_putF (ci := 3) (v := .ref q1) (ty := (.array .int)) (C := RX3) (T := TX3) (N := 2) (ws' := [(h, .inr (3, [.ref q1, .null])), (q1, zA (cA 0) 256 (fun _ => 0))]) hx hb hq in_wsX30 tyX3 tyX3_ok nmX3 hown hK hP hD hS 0 rfl rfl 0 (by decide) (hq _ q261) (fun _ h9 => h9) rfl hin rfl (by decide +kernel) rfl rfl (Nat.le_of_ble_eq_true rfl) rfl dX3_init_10 (fun H locs hP hD hS => ?_)
  refine lv_aload_n hx hb dX3_init_13 rfl (lv_at hl 0 rfl) ?_
  refine z_sipush hx hb dX3_init_14 (by decide) ?_
  refine z_newI (N' := 272) hx hb (hq _ q19) hK hP hD hS hA (by decide) (by decide) (by decide) (Nat.le_of_ble_eq_true rfl) (Nat.le_of_ble_eq_true rfl) dX3_init_17 (fun q2 H hP hD hS => ?_)
  have hP : va_P D vwCl [(h, .inr (3, [.ref q1, .null])), (q1, zA (cA 0) 256 (fun _ => 0)), (q2, zA (cA 0) 272 (fun _ => 0))] H := hP
  have hD : va_D A [(h, .inr (3, [.ref q1, .null])), (q1, zA (cA 0) 256 (fun _ => 0)), (q2, zA (cA 0) 272 (fun _ => 0))] := hD
  refine W.widen (k := 2) (n := 528) (Nat.le_of_ble_eq_true rfl) (Nat.le_of_ble_eq_true rfl) ?_
  refine z_putF (ci := 3) (v := .ref q2) (ty := (.array .int)) (C := RX3) (T := TX3) (N := 2) (ws' := [(h, .inr (3, [.ref q1, .ref q2])), (q1, zA (cA 0) 256 (fun _ => 0)), (q2, zA (cA 0) 272 (fun _ => 0))]) hx hb hq in_wsX30 tyX3 tyX3_ok nmX3 hown hK hP hD hS 0 rfl rfl 1 (by decide) (hq _ q262) (fun _ h9 => h9) rfl hin rfl (by decide +kernel) rfl rfl (Nat.le_of_ble_eq_true rfl) rfl dX3_init_19 (fun H locs hP hD hS => ?_)
  obtain ⟨u9, hu9⟩ : ∃ u9 : Nat → Nat, u9 0 = q1 ∧ u9 1 = q2 := ⟨fun k => ([q1, q2] : List Nat).getD k 0, rfl, rfl⟩
  have hP9 := hP.sub (ws' := (wX3_init cA h u9)) [0, 1, 2] (by simp only [wX3_init, hu9]; rfl)
  have hD9 := hD.sub (ws' := (wX3_init cA h u9)) [0, 1, 2] (by decide) (by simp only [wX3_init, hu9]; rfl)
  exact W.vret B.exec B.bytes B.returns (fun t ht hW => ⟨⟨u9, rfl, trivial, by rw [ht]; exact hP9, va_K.moved hW.alike hK, hD9⟩, hS.F ht⟩) hS.2.2 dX3_init_22

/-! ===== FlickerDesk$Move() ===== -/
abbrev rmX4_init : Room := { frames := 1, cells := 0, slots := 0, locals := 12 }
abbrev wX4_init (cA : Nat → ClassId) (h : Nat) (u : Nat → Nat) : va_W := [(h, .inr (4, [.int (iZ 0), .int (iZ 0), .int (iZ 0)]))]
set_option maxHeartbeats 4000000 in
set_option maxRecDepth 100000 in
theorem cX4_init_m (l : Launch) (G : ZG) (D : va_G) (cA : Nat → ClassId) (h sz : Nat) : zMc l yX4_init vX4_init rmX4_init G D cA h [(h, .inr (4, [.int (iZ 0), .int (iZ 0), .int (iZ 0)]))] (wX4_init cA h) 0 0 sz := by
  refine Met.ofW (cc := cX4_init) (maxL := 1) (ret := none) (by decide) rfl ?_
  intro p e s m args below meth c s₁ B hml hv
  obtain ⟨rfl, ⟨hsz, hP, hK, hD0, hZ⟩, hN⟩ := hv
  subst hsz
  have hlocks := B.notSynchronized
  have hl := lv_entry ([.ref h]) (n := 1) (Nat.le_of_ble_eq_true rfl)
  rw [lg_entry_eq]
  generalize (lg_sl ([.ref h]) ++ List.replicate (1 - (lg_sl ([.ref h])).length) Slot.unset).toArray = ls at hl ⊢
  have hl : lv_has ls 1 [(0, .ref h)] := hl
  have hx := B.exec
  have hb := B.bytes
  have hts := atoms_spec (ws := vX4_init) B.pre
  have hown : s.vm.findClass RX4 = some m.cls := findClass_of_methodNamed B.named
  have hin : meth.name = "<init>" := (name_of_methodNamed B.named B.method).1
  have hq : ∀ w ∈ wAll, w.before _ s = true := fun w h => hts w (List.mem_cons_of_mem _ h)
  have hD := hD0.self (sz := s.heap.size)
  have hS : va_S (va_A [(h, .inr (4, [.int (iZ 0), .int (iZ 0), .int (iZ 0)]))] s.heap.size) s.heap s.heap [] := va_S.rf
  have hA : ∀ q, s.heap.size ≤ q → va_A [(h, .inr (4, [.int (iZ 0), .int (iZ 0), .int (iZ 0)]))] s.heap.size q := fun q h => Or.inr h
  generalize hAe : va_A [(h, .inr (4, [.int (iZ 0), .int (iZ 0), .int (iZ 0)]))] s.heap.size = A at hD hS hA hZ ⊢
  have C : CallFix p m c cX4_init 1 s _ vX4_init RX4 := ⟨hx, hb, hml, hown, hts⟩
  refine lv_aload_n hx hb dX4_init_0 rfl (lv_at hl 0 rfl) ?_
  refine W.objInit hx hb hown (hq _ q281) (hq _ q17) (hq _ q18) rfl (by rw [hml]; exact hl.1) rfl dX4_init_1 (Nat.le_of_ble_eq_true rfl) (Nat.le_of_ble_eq_true rfl) ?_
  refine W.eq (g2 := F0 m 4 ls []) rfl ?_
  have u9 : Nat → Nat := fun _ => 0
  have hP9 := hP.sub (ws' := (wX4_init cA h u9)) [0] rfl
  have hD9 := hD.sub (ws' := (wX4_init cA h u9)) [0] (by decide) rfl
  exact W.vret B.exec B.bytes B.returns (fun t ht hW => ⟨⟨u9, rfl, trivial, by rw [ht]; exact hP9, va_K.moved hW.alike hK, hD9⟩, hS.F ht⟩) hS.2.2 dX4_init_4

/-! ===== FlickerDesk$Parting() ===== -/
abbrev rmX5_init : Room := { frames := 1, cells := 4, slots := 1401, locals := 12 }
abbrev wX5_init (cA : Nat → ClassId) (h : Nat) (u : Nat → Nat) : va_W := [(h, .inr (5, [.int (iZ 0), .int (iZ 0), .ref (u 0), .ref (u 1), .ref (u 2), .ref (u 3)])), ((u 0), zA (cA 0) 24 (fun _ => 0)), ((u 1), zA (cA 0) 576 (fun _ => 0)), ((u 2), zA (cA 0) 576 (fun _ => 0)), ((u 3), zA (cA 0) 225 (fun _ => 0))]
set_option maxHeartbeats 4000000 in
set_option maxRecDepth 100000 in
theorem cX5_init_m (l : Launch) (G : ZG) (D : va_G) (cA : Nat → ClassId) (h sz : Nat) : zMc l yX5_init vX5_init rmX5_init G D cA h [(h, .inr (5, [.int (iZ 0), .int (iZ 0), .null, .null, .null, .null]))] (wX5_init cA h) 4 1401 sz := by
  refine Met.ofW (cc := cX5_init) (maxL := 1) (ret := none) (by decide) rfl ?_
  intro p e s m args below meth c s₁ B hml hv
  obtain ⟨rfl, ⟨hsz, hP, hK, hD0, hZ⟩, hN⟩ := hv
  subst hsz
  have hlocks := B.notSynchronized
  have hl := lv_entry ([.ref h]) (n := 1) (Nat.le_of_ble_eq_true rfl)
  rw [lg_entry_eq]
  generalize (lg_sl ([.ref h]) ++ List.replicate (1 - (lg_sl ([.ref h])).length) Slot.unset).toArray = ls at hl ⊢
  have hl : lv_has ls 1 [(0, .ref h)] := hl
  have hx := B.exec
  have hb := B.bytes
  have hts := atoms_spec (ws := vX5_init) B.pre
  have hown : s.vm.findClass RX5 = some m.cls := findClass_of_methodNamed B.named
  have hin : meth.name = "<init>" := (name_of_methodNamed B.named B.method).1
  have hq : ∀ w ∈ wAll, w.before _ s = true := fun w h => hts w (List.mem_cons_of_mem _ h)
  have hD := hD0.self (sz := s.heap.size)
  have hS : va_S (va_A [(h, .inr (5, [.int (iZ 0), .int (iZ 0), .null, .null, .null, .null]))] s.heap.size) s.heap s.heap [] := va_S.rf
  have hA : ∀ q, s.heap.size ≤ q → va_A [(h, .inr (5, [.int (iZ 0), .int (iZ 0), .null, .null, .null, .null]))] s.heap.size q := fun q h => Or.inr h
  generalize hAe : va_A [(h, .inr (5, [.int (iZ 0), .int (iZ 0), .null, .null, .null, .null]))] s.heap.size = A at hD hS hA hZ ⊢
  have C : CallFix p m c cX5_init 1 s _ vX5_init RX5 := ⟨hx, hb, hml, hown, hts⟩
  refine lv_aload_n hx hb dX5_init_0 rfl (lv_at hl 0 rfl) ?_
  refine W.objInit hx hb hown (hq _ q301) (hq _ q17) (hq _ q18) rfl (by rw [hml]; exact hl.1) rfl dX5_init_1 (Nat.le_of_ble_eq_true rfl) (Nat.le_of_ble_eq_true rfl) ?_
  refine W.eq (g2 := F0 m 4 ls []) rfl ?_
  refine lv_aload_n hx hb dX5_init_4 rfl (lv_at hl 0 rfl) ?_
  refine z_bipush hx hb dX5_init_5 (by decide) ?_
  refine z_newI (N' := 24) hx hb (hq _ q19) hK hP hD hS hA (by decide) (by decide) (by decide) (Nat.le_of_ble_eq_true rfl) (Nat.le_of_ble_eq_true rfl) dX5_init_7 (fun q1 H hP hD hS => ?_)
  have hP : va_P D vwCl [(h, .inr (5, [.int (iZ 0), .int (iZ 0), .null, .null, .null, .null])), (q1, zA (cA 0) 24 (fun _ => 0))] H := hP
  have hD : va_D A [(h, .inr (5, [.int (iZ 0), .int (iZ 0), .null, .null, .null, .null])), (q1, zA (cA 0) 24 (fun _ => 0))] := hD
  refine W.widen (k := 1) (n := 24) (Nat.le_of_ble_eq_true rfl) (Nat.le_of_ble_eq_true rfl) ?_
  refine z_putF (ci := 5) (v := .ref q1) (ty := (.array .int)) (C := RX5) (T := TX5) (N := 6) (ws' := [(h, .inr (5, [.int (iZ 0), .int (iZ 0), .ref q1, .null, .null, .null])), (q1, zA (cA 0) 24 (fun _ => 0))]) hx hb hq in_wsX50 tyX5 tyX5_ok nmX5 hown hK hP hD hS 0 rfl rfl 2 (by decide) (hq _ q302) (fun _ h9 => h9) rfl hin rfl (by decide +kernel) rfl rfl (Nat.le_of_ble_eq_true rfl) rfl dX5_init_9 (fun H locs hP hD hS => ?_)
  refine lv_aload_n hx hb dX5_init_12 rfl (lv_at hl 0 rfl) ?_
  refine z_sipush hx hb dX5_init_13 (by decide) ?_
  refine z_newI (N' := 576) hx hb (hq _ q19) hK hP hD hS hA (by decide) (by decide) (by decide) (Nat.le_of_ble_eq_true rfl) (Nat.le_of_ble_eq_true rfl) dX5_init_16 (fun q2 H hP hD hS => ?_)
  have hP : va_P D vwCl [(h, .inr (5, [.int (iZ 0), .int (iZ 0), .ref q1, .null, .null, .null])), (q1, zA (cA 0) 24 (fun _ => 0)), (q2, zA (cA 0) 576 (fun _ => 0))] H := hP
  have hD : va_D A [(h, .inr (5, [.int (iZ 0), .int (iZ 0), .ref q1, .null, .null, .null])), (q1, zA (cA 0) 24 (fun _ => 0)), (q2, zA (cA 0) 576 (fun _ => 0))] := hD
  refine W.widen (k := 2) (n := 600) (Nat.le_of_ble_eq_true rfl) (Nat.le_of_ble_eq_true rfl) ?_
  refine z_putF (ci := 5) (v := .ref q2) (ty := (.array .int)) (C := RX5) (T := TX5) (N := 6) (ws' := [(h, .inr (5, [.int (iZ 0), .int (iZ 0), .ref q1, .ref q2, .null, .null])), (q1, zA (cA 0) 24 (fun _ => 0)), (q2, zA (cA 0) 576 (fun _ => 0))]) hx hb hq in_wsX50 tyX5 tyX5_ok nmX5 hown hK hP hD hS 0 rfl rfl 3 (by decide) (hq _ q303) (fun _ h9 => h9) rfl hin rfl (by decide +kernel) rfl rfl (Nat.le_of_ble_eq_true rfl) rfl dX5_init_18 (fun H locs hP hD hS => ?_)
  refine lv_aload_n hx hb dX5_init_21 rfl (lv_at hl 0 rfl) ?_
  refine z_sipush hx hb dX5_init_22 (by decide) ?_
  refine z_newI (N' := 576) hx hb (hq _ q19) hK hP hD hS hA (by decide) (by decide) (by decide) (Nat.le_of_ble_eq_true rfl) (Nat.le_of_ble_eq_true rfl) dX5_init_25 (fun q3 H hP hD hS => ?_)
  have hP : va_P D vwCl [(h, .inr (5, [.int (iZ 0), .int (iZ 0), .ref q1, .ref q2, .null, .null])), (q1, zA (cA 0) 24 (fun _ => 0)), (q2, zA (cA 0) 576 (fun _ => 0)), (q3, zA (cA 0) 576 (fun _ => 0))] H := hP
  have hD : va_D A [(h, .inr (5, [.int (iZ 0), .int (iZ 0), .ref q1, .ref q2, .null, .null])), (q1, zA (cA 0) 24 (fun _ => 0)), (q2, zA (cA 0) 576 (fun _ => 0)), (q3, zA (cA 0) 576 (fun _ => 0))] := hD
  refine W.widen (k := 3) (n := 1176) (Nat.le_of_ble_eq_true rfl) (Nat.le_of_ble_eq_true rfl) ?_
  refine z_putF (ci := 5) (v := .ref q3) (ty := (.array .int)) (C := RX5) (T := TX5) (N := 6) (ws' := [(h, .inr (5, [.int (iZ 0), .int (iZ 0), .ref q1, .ref q2, .ref q3, .null])), (q1, zA (cA 0) 24 (fun _ => 0)), (q2, zA (cA 0) 576 (fun _ => 0)), (q3, zA (cA 0) 576 (fun _ => 0))]) hx hb hq in_wsX50 tyX5 tyX5_ok nmX5 hown hK hP hD hS 0 rfl rfl 4 (by decide) (hq _ q304) (fun _ h9 => h9) rfl hin rfl (by decide +kernel) rfl rfl (Nat.le_of_ble_eq_true rfl) rfl dX5_init_27 (fun H locs hP hD hS => ?_)
  refine lv_aload_n hx hb dX5_init_30 rfl (lv_at hl 0 rfl) ?_
  refine z_sipush hx hb dX5_init_31 (by decide) ?_
  refine z_newI (N' := 225) hx hb (hq _ q19) hK hP hD hS hA (by decide) (by decide) (by decide) (Nat.le_of_ble_eq_true rfl) (Nat.le_of_ble_eq_true rfl) dX5_init_34 (fun q4 H hP hD hS => ?_)
  have hP : va_P D vwCl [(h, .inr (5, [.int (iZ 0), .int (iZ 0), .ref q1, .ref q2, .ref q3, .null])), (q1, zA (cA 0) 24 (fun _ => 0)), (q2, zA (cA 0) 576 (fun _ => 0)), (q3, zA (cA 0) 576 (fun _ => 0)), (q4, zA (cA 0) 225 (fun _ => 0))] H := hP
  have hD : va_D A [(h, .inr (5, [.int (iZ 0), .int (iZ 0), .ref q1, .ref q2, .ref q3, .null])), (q1, zA (cA 0) 24 (fun _ => 0)), (q2, zA (cA 0) 576 (fun _ => 0)), (q3, zA (cA 0) 576 (fun _ => 0)), (q4, zA (cA 0) 225 (fun _ => 0))] := hD
  refine W.widen (k := 4) (n := 1401) (Nat.le_of_ble_eq_true rfl) (Nat.le_of_ble_eq_true rfl) ?_
  refine z_putF (ci := 5) (v := .ref q4) (ty := (.array .int)) (C := RX5) (T := TX5) (N := 6) (ws' := [(h, .inr (5, [.int (iZ 0), .int (iZ 0), .ref q1, .ref q2, .ref q3, .ref q4])), (q1, zA (cA 0) 24 (fun _ => 0)), (q2, zA (cA 0) 576 (fun _ => 0)), (q3, zA (cA 0) 576 (fun _ => 0)), (q4, zA (cA 0) 225 (fun _ => 0))]) hx hb hq in_wsX50 tyX5 tyX5_ok nmX5 hown hK hP hD hS 0 rfl rfl 5 (by decide) (hq _ q305) (fun _ h9 => h9) rfl hin rfl (by decide +kernel) rfl rfl (Nat.le_of_ble_eq_true rfl) rfl dX5_init_36 (fun H locs hP hD hS => ?_)
  obtain ⟨u9, hu9⟩ : ∃ u9 : Nat → Nat, u9 0 = q1 ∧ u9 1 = q2 ∧ u9 2 = q3 ∧ u9 3 = q4 := ⟨fun k => ([q1, q2, q3, q4] : List Nat).getD k 0, rfl, rfl, rfl, rfl⟩
  have hP9 := hP.sub (ws' := (wX5_init cA h u9)) [0, 1, 2, 3, 4] (by simp only [wX5_init, hu9]; rfl)
  have hD9 := hD.sub (ws' := (wX5_init cA h u9)) [0, 1, 2, 3, 4] (by decide) (by simp only [wX5_init, hu9]; rfl)
  exact W.vret B.exec B.bytes B.returns (fun t ht hW => ⟨⟨u9, rfl, trivial, by rw [ht]; exact hP9, va_K.moved hW.alike hK, hD9⟩, hS.F ht⟩) hS.2.2 dX5_init_39

/-! ===== FlickerDesk$Film() ===== -/
abbrev rmX2_init : Room := { frames := 2, cells := 5, slots := 1594, locals := 80 }
abbrev wX2_init (cA : Nat → ClassId) (r : Int × Int × Int × (Nat → Int) × (Nat → Int) × (Nat → Int) × (Nat → Int)) (h : Nat) (u : Nat → Nat) : va_W := [(h, .inr (2, [.ref (u 0), .ref (u 1), .ref (u 2), .ref (u 3), .ref (u 4), .int (iZ r.1), .int (iZ r.2.1), .int (iZ r.2.2.1)])), ((u 0), zA (cA 0) 1536 (fun _ => 0)), ((u 1), zA (cA 0) 24 r.2.2.2.1), ((u 2), zA (cA 0) 24 r.2.2.2.2.1), ((u 3), zA (cA 0) 6 r.2.2.2.2.2.2), ((u 4), zA (cA 0) 4 r.2.2.2.2.2.1)]
set_option maxHeartbeats 4000000 in
set_option maxRecDepth 100000 in
theorem cX2_init_m (l : Launch) (G : ZG) (D : va_G) (cA : Nat → ClassId) (h sz : Nat) (N : Nat) {r : Int × Int × Int × (Nat → Int) × (Nat → Int) × (Nat → Int) × (Nat → Int)} (hc : fX2_clear N 0 0 0 (fun _ => 0) (fun _ => 0) (fun _ => 0) (fun _ => 0) = some r) : zMc l yX2_init vX2_init rmX2_init G D cA h [(h, .inr (2, [.null, .null, .null, .null, .null, .int (iZ 0), .int (iZ 0), .int (iZ 0)]))] (wX2_init cA r h) 5 1594 sz := by
  refine Met.ofW (cc := cX2_init) (maxL := 1) (ret := none) (by decide) rfl ?_
  intro p e s m args below meth c s₁ B hml hv
  obtain ⟨rfl, ⟨hsz, hP, hK, hD0, hZ⟩, hN⟩ := hv
  subst hsz
  have hlocks := B.notSynchronized
  have hl := lv_entry ([.ref h]) (n := 1) (Nat.le_of_ble_eq_true rfl)
  rw [lg_entry_eq]
  generalize (lg_sl ([.ref h]) ++ List.replicate (1 - (lg_sl ([.ref h])).length) Slot.unset).toArray = ls at hl ⊢
  have hl : lv_has ls 1 [(0, .ref h)] := hl
  have hx := B.exec
  have hb := B.bytes
  have hts := atoms_spec (ws := vX2_init) B.pre
  have hown : s.vm.findClass RX2 = some m.cls := findClass_of_methodNamed B.named
  have hin : meth.name = "<init>" := (name_of_methodNamed B.named B.method).1
  have hq : ∀ w ∈ wAll, w.before _ s = true := fun w h => hts w (List.mem_cons_of_mem _ h)
  have hD := hD0.self (sz := s.heap.size)
  have hS : va_S (va_A [(h, .inr (2, [.null, .null, .null, .null, .null, .int (iZ 0), .int (iZ 0), .int (iZ 0)]))] s.heap.size) s.heap s.heap [] := va_S.rf
  have hA : ∀ q, s.heap.size ≤ q → va_A [(h, .inr (2, [.null, .null, .null, .null, .null, .int (iZ 0), .int (iZ 0), .int (iZ 0)]))] s.heap.size q := fun q h => Or.inr h
  generalize hAe : va_A [(h, .inr (2, [.null, .null, .null, .null, .null, .int (iZ 0), .int (iZ 0), .int (iZ 0)]))] s.heap.size = A at hD hS hA hZ ⊢
  have C : CallFix p m c cX2_init 1 s _ vX2_init RX2 := ⟨hx, hb, hml, hown, hts⟩
  refine lv_aload_n hx hb dX2_init_0 rfl (lv_at hl 0 rfl) ?_
  refine W.objInit hx hb hown (hq _ q16) (hq _ q17) (hq _ q18) rfl (by rw [hml]; exact hl.1) rfl dX2_init_1 (Nat.le_of_ble_eq_true rfl) (Nat.le_of_ble_eq_true rfl) ?_
  refine W.eq (g2 := F0 m 4 ls []) rfl ?_
  refine lv_aload_n hx hb dX2_init_4 rfl (lv_at hl 0 rfl) ?_
  refine z_sipush hx hb dX2_init_5 (by decide) ?_
  refine z_newI (N' := 1536) hx hb (hq _ q19) hK hP hD hS hA (by decide) (by decide) (by decide) (Nat.le_of_ble_eq_true rfl) (Nat.le_of_ble_eq_true rfl) dX2_init_8 (fun q1 H hP hD hS => ?_)
  have hP : va_P D vwCl [(h, .inr (2, [.null, .null, .null, .null, .null, .int (iZ 0), .int (iZ 0), .int (iZ 0)])), (q1, zA (cA 0) 1536 (fun _ => 0))] H := hP
  have hD : va_D A [(h, .inr (2, [.null, .null, .null, .null, .null, .int (iZ 0), .int (iZ 0), .int (iZ 0)])), (q1, zA (cA 0) 1536 (fun _ => 0))] := hD
  refine W.widen (k := 1) (n := 1536) (Nat.le_of_ble_eq_true rfl) (Nat.le_of_ble_eq_true rfl) ?_
  refine z_putF (ci := 2) (v := .ref q1) (ty := (.array .int)) (C := RX2) (T := TX2) (N := 8) (ws' := [(h, .inr (2, [.ref q1, .null, .null, .null, .null, .int (iZ 0), .int (iZ 0), .int (iZ 0)])), (q1, zA (cA 0) 1536 (fun _ => 0))]) hx hb hq in_wsX20 tyX2 tyX2_ok nmX2 hown hK hP hD hS 0 rfl rfl 0 (by decide) (hq _ q20) (fun _ h9 => h9) rfl hin rfl (by decide +kernel) rfl rfl (Nat.le_of_ble_eq_true rfl) rfl dX2_init_10 (fun H locs hP hD hS => ?_)
  refine lv_aload_n hx hb dX2_init_13 rfl (lv_at hl 0 rfl) ?_
  refine z_bipush hx hb dX2_init_14 (by decide) ?_
  refine z_newI (N' := 24) hx hb (hq _ q19) hK hP hD hS hA (by decide) (by decide) (by decide) (Nat.le_of_ble_eq_true rfl) (Nat.le_of_ble_eq_true rfl) dX2_init_16 (fun q2 H hP hD hS => ?_)
  have hP : va_P D vwCl [(h, .inr (2, [.ref q1, .null, .null, .null, .null, .int (iZ 0), .int (iZ 0), .int (iZ 0)])), (q1, zA (cA 0) 1536 (fun _ => 0)), (q2, zA (cA 0) 24 (fun _ => 0))] H := hP
  have hD : va_D A [(h, .inr (2, [.ref q1, .null, .null, .null, .null, .int (iZ 0), .int (iZ 0), .int (iZ 0)])), (q1, zA (cA 0) 1536 (fun _ => 0)), (q2, zA (cA 0) 24 (fun _ => 0))] := hD
  refine W.widen (k := 2) (n := 1560) (Nat.le_of_ble_eq_true rfl) (Nat.le_of_ble_eq_true rfl) ?_
  refine z_putF (ci := 2) (v := .ref q2) (ty := (.array .int)) (C := RX2) (T := TX2) (N := 8) (ws' := [(h, .inr (2, [.ref q1, .ref q2, .null, .null, .null, .int (iZ 0), .int (iZ 0), .int (iZ 0)])), (q1, zA (cA 0) 1536 (fun _ => 0)), (q2, zA (cA 0) 24 (fun _ => 0))]) hx hb hq in_wsX20 tyX2 tyX2_ok nmX2 hown hK hP hD hS 0 rfl rfl 1 (by decide) (hq _ q5) (fun _ h9 => h9) rfl hin rfl (by decide +kernel) rfl rfl (Nat.le_of_ble_eq_true rfl) rfl dX2_init_18 (fun H locs hP hD hS => ?_)
  refine lv_aload_n hx hb dX2_init_21 rfl (lv_at hl 0 rfl) ?_
  refine z_bipush hx hb dX2_init_22 (by decide) ?_
  refine z_newI (N' := 24) hx hb (hq _ q19) hK hP hD hS hA (by decide) (by decide) (by decide) (Nat.le_of_ble_eq_true rfl) (Nat.le_of_ble_eq_true rfl) dX2_init_24 (fun q3 H hP hD hS => ?_)
  have hP : va_P D vwCl [(h, .inr (2, [.ref q1, .ref q2, .null, .null, .null, .int (iZ 0), .int (iZ 0), .int (iZ 0)])), (q1, zA (cA 0) 1536 (fun _ => 0)), (q2, zA (cA 0) 24 (fun _ => 0)), (q3, zA (cA 0) 24 (fun _ => 0))] H := hP
  have hD : va_D A [(h, .inr (2, [.ref q1, .ref q2, .null, .null, .null, .int (iZ 0), .int (iZ 0), .int (iZ 0)])), (q1, zA (cA 0) 1536 (fun _ => 0)), (q2, zA (cA 0) 24 (fun _ => 0)), (q3, zA (cA 0) 24 (fun _ => 0))] := hD
  refine W.widen (k := 3) (n := 1584) (Nat.le_of_ble_eq_true rfl) (Nat.le_of_ble_eq_true rfl) ?_
  refine z_putF (ci := 2) (v := .ref q3) (ty := (.array .int)) (C := RX2) (T := TX2) (N := 8) (ws' := [(h, .inr (2, [.ref q1, .ref q2, .ref q3, .null, .null, .int (iZ 0), .int (iZ 0), .int (iZ 0)])), (q1, zA (cA 0) 1536 (fun _ => 0)), (q2, zA (cA 0) 24 (fun _ => 0)), (q3, zA (cA 0) 24 (fun _ => 0))]) hx hb hq in_wsX20 tyX2 tyX2_ok nmX2 hown hK hP hD hS 0 rfl rfl 2 (by decide) (hq _ q6) (fun _ h9 => h9) rfl hin rfl (by decide +kernel) rfl rfl (Nat.le_of_ble_eq_true rfl) rfl dX2_init_26 (fun H locs hP hD hS => ?_)
  refine lv_aload_n hx hb dX2_init_29 rfl (lv_at hl 0 rfl) ?_
  refine z_bipush hx hb dX2_init_30 (by decide) ?_
  refine z_newI (N' := 6) hx hb (hq _ q19) hK hP hD hS hA (by decide) (by decide) (by decide) (Nat.le_of_ble_eq_true rfl) (Nat.le_of_ble_eq_true rfl) dX2_init_32 (fun q4 H hP hD hS => ?_)
  have hP : va_P D vwCl [(h, .inr (2, [.ref q1, .ref q2, .ref q3, .null, .null, .int (iZ 0), .int (iZ 0), .int (iZ 0)])), (q1, zA (cA 0) 1536 (fun _ => 0)), (q2, zA (cA 0) 24 (fun _ => 0)), (q3, zA (cA 0) 24 (fun _ => 0)), (q4, zA (cA 0) 6 (fun _ => 0))] H := hP
  have hD : va_D A [(h, .inr (2, [.ref q1, .ref q2, .ref q3, .null, .null, .int (iZ 0), .int (iZ 0), .int (iZ 0)])), (q1, zA (cA 0) 1536 (fun _ => 0)), (q2, zA (cA 0) 24 (fun _ => 0)), (q3, zA (cA 0) 24 (fun _ => 0)), (q4, zA (cA 0) 6 (fun _ => 0))] := hD
  refine W.widen (k := 4) (n := 1590) (Nat.le_of_ble_eq_true rfl) (Nat.le_of_ble_eq_true rfl) ?_
  refine z_putF (ci := 2) (v := .ref q4) (ty := (.array .int)) (C := RX2) (T := TX2) (N := 8) (ws' := [(h, .inr (2, [.ref q1, .ref q2, .ref q3, .ref q4, .null, .int (iZ 0), .int (iZ 0), .int (iZ 0)])), (q1, zA (cA 0) 1536 (fun _ => 0)), (q2, zA (cA 0) 24 (fun _ => 0)), (q3, zA (cA 0) 24 (fun _ => 0)), (q4, zA (cA 0) 6 (fun _ => 0))]) hx hb hq in_wsX20 tyX2 tyX2_ok nmX2 hown hK hP hD hS 0 rfl rfl 3 (by decide) (hq _ q8) (fun _ h9 => h9) rfl hin rfl (by decide +kernel) rfl rfl (Nat.le_of_ble_eq_true rfl) rfl dX2_init_34 (fun H locs hP hD hS => ?_)
  refine lv_aload_n hx hb dX2_init_37 rfl (lv_at hl 0 rfl) ?_
  refine z_iconst hx hb dX2_init_38 ?_
  refine z_newI (N' := 4) hx hb (hq _ q19) hK hP hD hS hA (by decide) (by decide) (by decide) (Nat.le_of_ble_eq_true rfl) (Nat.le_of_ble_eq_true rfl) dX2_init_39 (fun q5 H hP hD hS => ?_)
  have hP : va_P D vwCl [(h, .inr (2, [.ref q1, .ref q2, .ref q3, .ref q4, .null, .int (iZ 0), .int (iZ 0), .int (iZ 0)])), (q1, zA (cA 0) 1536 (fun _ => 0)), (q2, zA (cA 0) 24 (fun _ => 0)), (q3, zA (cA 0) 24 (fun _ => 0)), (q4, zA (cA 0) 6 (fun _ => 0)), (q5, zA (cA 0) 4 (fun _ => 0))] H := hP
  have hD : va_D A [(h, .inr (2, [.ref q1, .ref q2, .ref q3, .ref q4, .null, .int (iZ 0), .int (iZ 0), .int (iZ 0)])), (q1, zA (cA 0) 1536 (fun _ => 0)), (q2, zA (cA 0) 24 (fun _ => 0)), (q3, zA (cA 0) 24 (fun _ => 0)), (q4, zA (cA 0) 6 (fun _ => 0)), (q5, zA (cA 0) 4 (fun _ => 0))] := hD
  refine W.widen (k := 5) (n := 1594) (Nat.le_of_ble_eq_true rfl) (Nat.le_of_ble_eq_true rfl) ?_
  refine z_putF (ci := 2) (v := .ref q5) (ty := (.array .int)) (C := RX2) (T := TX2) (N := 8) (ws' := [(h, .inr (2, [.ref q1, .ref q2, .ref q3, .ref q4, .ref q5, .int (iZ 0), .int (iZ 0), .int (iZ 0)])), (q1, zA (cA 0) 1536 (fun _ => 0)), (q2, zA (cA 0) 24 (fun _ => 0)), (q3, zA (cA 0) 24 (fun _ => 0)), (q4, zA (cA 0) 6 (fun _ => 0)), (q5, zA (cA 0) 4 (fun _ => 0))]) hx hb hq in_wsX20 tyX2 tyX2_ok nmX2 hown hK hP hD hS 0 rfl rfl 4 (by decide) (hq _ q7) (fun _ h9 => h9) rfl hin rfl (by decide +kernel) rfl rfl (Nat.le_of_ble_eq_true rfl) rfl dX2_init_41 (fun H locs hP hD hS => ?_)
  refine lv_aload_n hx hb dX2_init_44 rfl (lv_at hl 0 rfl) ?_
  refine z_callVv (G := G) (D := D) (cA := cA) (wc := (wX2_clear cA h q2 q3 q5 q4 q1 0 0 0 (fun _ => 0) (fun _ => 0) (fun _ => 0) (fun _ => 0))) (wr := [(q1, zA (cA 0) 1536 (fun _ => 0))]) (w1 := (wX2_clear cA h q2 q3 q5 q4 q1 r.1 r.2.1 r.2.2.1 r.2.2.2.1 r.2.2.2.2.1 r.2.2.2.2.2.1 r.2.2.2.2.2.2)) (ws' := [(h, .inr (2, [.ref q1, .ref q2, .ref q3, .ref q4, .ref q5, .int (iZ r.1), .int (iZ r.2.1), .int (iZ r.2.2.1)])), (q1, zA (cA 0) 1536 (fun _ => 0)), (q2, zA (cA 0) 24 r.2.2.2.1), (q3, zA (cA 0) 24 r.2.2.2.2.1), (q4, zA (cA 0) 6 r.2.2.2.2.2.2), (q5, zA (cA 0) 4 r.2.2.2.2.2.1)]) (As := []) C hK hA hZ hP hD hS [0, 2, 3, 5, 4] [1] [1, 0, 2, 3, 5, 4] rfl rfl rfl (by decide) (cX2_clear_m l G D cA h q2 q3 q5 q4 q1 0 0 0 (fun _ => 0) (fun _ => 0) (fun _ => 0) (fun _ => 0) H.size N hc) (cwV 0 hts (gAllV q21 q22 q23 q24 q1) rfl rfl rfl (by decide +kernel) ⟨Nat.le_of_ble_eq_true rfl, Nat.le_of_ble_eq_true rfl⟩) 0 2 rfl rfl rfl rfl hl.1 rfl (Nat.le_of_ble_eq_true rfl) ⟨Nat.le_of_ble_eq_true rfl, Nat.le_of_ble_eq_true rfl⟩ dX2_init_45 (fun H locs hP hD hS => ?_)
  obtain ⟨u9, hu9⟩ : ∃ u9 : Nat → Nat, u9 0 = q1 ∧ u9 1 = q2 ∧ u9 2 = q3 ∧ u9 3 = q4 ∧ u9 4 = q5 := ⟨fun k => ([q1, q2, q3, q4, q5] : List Nat).getD k 0, rfl, rfl, rfl, rfl, rfl⟩
  have hP9 := hP.sub (ws' := (wX2_init cA r h u9)) [0, 1, 2, 3, 4, 5] (by simp only [wX2_init, hu9]; rfl)
  have hD9 := hD.sub (ws' := (wX2_init cA r h u9)) [0, 1, 2, 3, 4, 5] (by decide) (by simp only [wX2_init, hu9]; rfl)
  exact W.vret B.exec B.bytes B.returns (fun t ht hW => ⟨⟨u9, rfl, trivial, by rw [ht]; exact hP9, va_K.moved hW.alike hK, hD9⟩, hS.F ht⟩) hS.2.2 dX2_init_48

/-! ===== FlickerDesk$Reader() ===== -/
abbrev rmX7_init : Room := { frames := 3, cells := 9, slots := 2513, locals := 100 }
abbrev wX7_init (cA : Nat → ClassId) (r : Int × Int × Int × (Nat → Int) × (Nat → Int) × (Nat → Int) × (Nat → Int)) (h : Nat) (u : Nat → Nat) : va_W := [(h, .inr (7, [.ref (u 0), .ref (u 6), .ref (u 7), .ref (u 8), .int (iZ 0), .int (iZ 0), .int (iZ ((-1))), .int (iZ 0), .int (iZ 0), .int (iZ 0), .int (iZ 0)])), ((u 0), .inr (2, [.ref (u 1), .ref (u 2), .ref (u 3), .ref (u 4), .ref (u 5), .int (iZ r.1), .int (iZ r.2.1), .int (iZ r.2.2.1)])), ((u 1), zA (cA 0) 1536 (fun _ => 0)), ((u 2), zA (cA 0) 24 r.2.2.2.1), ((u 3), zA (cA 0) 24 r.2.2.2.2.1), ((u 4), zA (cA 0) 6 r.2.2.2.2.2.2), ((u 5), zA (cA 0) 4 r.2.2.2.2.2.1), ((u 6), zA (cA 0) 900 (fun _ => 0)), ((u 7), zA (cA 2) 7 (fun _ => 0)), ((u 8), zA (cA 2) 4 (fun _ => 0))]
set_option maxHeartbeats 4000000 in
set_option maxRecDepth 100000 in
theorem cX7_init_m (l : Launch) (G : ZG) (D : va_G) (cA : Nat → ClassId) (h sz : Nat) (N : Nat) {r : Int × Int × Int × (Nat → Int) × (Nat → Int) × (Nat → Int) × (Nat → Int)} (hc : fX2_clear N 0 0 0 (fun _ => 0) (fun _ => 0) (fun _ => 0) (fun _ => 0) = some r) : zMc l yX7_init vX7_init rmX7_init G D cA h [(h, .inr (7, [.null, .null, .null, .null, .int (iZ 0), .int (iZ 0), .int (iZ 0), .int (iZ 0), .int (iZ 0), .int (iZ 0), .int (iZ 0)]))] (wX7_init cA r h) 9 2513 sz := by
  refine Met.ofW (cc := cX7_init) (maxL := 1) (ret := none) (by decide) rfl ?_
  intro p e s m args below meth c s₁ B hml hv
  obtain ⟨rfl, ⟨hsz, hP, hK, hD0, hZ⟩, hN⟩ := hv
  subst hsz
  have hlocks := B.notSynchronized
  have hl := lv_entry ([.ref h]) (n := 1) (Nat.le_of_ble_eq_true rfl)
  rw [lg_entry_eq]
  generalize (lg_sl ([.ref h]) ++ List.replicate (1 - (lg_sl ([.ref h])).length) Slot.unset).toArray = ls at hl ⊢
  have hl : lv_has ls 1 [(0, .ref h)] := hl
  have hx := B.exec
  have hb := B.bytes
  have hts := atoms_spec (ws := vX7_init) B.pre
  have hown : s.vm.findClass RX7 = some m.cls := findClass_of_methodNamed B.named
  have hin : meth.name = "<init>" := (name_of_methodNamed B.named B.method).1
  have hq : ∀ w ∈ wAll, w.before _ s = true := fun w h => hts w (List.mem_cons_of_mem _ h)
  have hD := hD0.self (sz := s.heap.size)
  have hS : va_S (va_A [(h, .inr (7, [.null, .null, .null, .null, .int (iZ 0), .int (iZ 0), .int (iZ 0), .int (iZ 0), .int (iZ 0), .int (iZ 0), .int (iZ 0)]))] s.heap.size) s.heap s.heap [] := va_S.rf
  have hA : ∀ q, s.heap.size ≤ q → va_A [(h, .inr (7, [.null, .null, .null, .null, .int (iZ 0), .int (iZ 0), .int (iZ 0), .int (iZ 0), .int (iZ 0), .int (iZ 0), .int (iZ 0)]))] s.heap.size q := fun q h => Or.inr h
  generalize hAe : va_A [(h, .inr (7, [.null, .null, .null, .null, .int (iZ 0), .int (iZ 0), .int (iZ 0), .int (iZ 0), .int (iZ 0), .int (iZ 0), .int (iZ 0)]))] s.heap.size = A at hD hS hA hZ ⊢
  have C : CallFix p m c cX7_init 1 s _ vX7_init RX7 := ⟨hx, hb, hml, hown, hts⟩
  refine lv_aload_n hx hb dX7_init_0 rfl (lv_at hl 0 rfl) ?_
  refine W.objInit hx hb hown (hq _ q336) (hq _ q17) (hq _ q18) rfl (by rw [hml]; exact hl.1) rfl dX7_init_1 (Nat.le_of_ble_eq_true rfl) (Nat.le_of_ble_eq_true rfl) ?_
  refine W.eq (g2 := F0 m 4 ls []) rfl ?_
  refine lv_aload_n hx hb dX7_init_4 rfl (lv_at hl 0 rfl) ?_
  refine va_new (ci := 2) (fs := [.null, .null, .null, .null, .null, .int (iZ 0), .int (iZ 0), .int (iZ 0)]) (C := RX2) (T := TX2) (N := 8) hx hb hq in_wsX20 tyX2 tyX2_ok hown (hq _ q337) (hq _ q29) (hq _ q24) hK hP hD hS hA rfl (fun j hj => by rcases (show j = 0 ∨ j = 1 ∨ j = 2 ∨ j = 3 ∨ j = 4 ∨ j = 5 ∨ j = 6 ∨ j = 7 by omega) with rfl | rfl | rfl | rfl | rfl | rfl | rfl | rfl <;> rfl) (Nat.le_of_ble_eq_true rfl) (Nat.le_of_ble_eq_true rfl) dX7_init_5 (fun q1 H hP hD hS => ?_)
  have hP : va_P D vwCl [(h, .inr (7, [.null, .null, .null, .null, .int (iZ 0), .int (iZ 0), .int (iZ 0), .int (iZ 0), .int (iZ 0), .int (iZ 0), .int (iZ 0)])), (q1, .inr (2, [.null, .null, .null, .null, .null, .int (iZ 0), .int (iZ 0), .int (iZ 0)]))] H := hP
  have hD : va_D A [(h, .inr (7, [.null, .null, .null, .null, .int (iZ 0), .int (iZ 0), .int (iZ 0), .int (iZ 0), .int (iZ 0), .int (iZ 0), .int (iZ 0)])), (q1, .inr (2, [.null, .null, .null, .null, .null, .int (iZ 0), .int (iZ 0), .int (iZ 0)]))] := hD
  refine W.widen (k := 1) (n := 8) (Nat.le_of_ble_eq_true rfl) (Nat.le_of_ble_eq_true rfl) ?_
  refine lv_dup hx hb dX7_init_8 rfl ?_
  refine z_callCI (G := G) (D := D) (cA := cA) (wc := [(q1, .inr (2, [.null, .null, .null, .null, .null, .int (iZ 0), .int (iZ 0), .int (iZ 0)]))]) (wr := [(h, .inr (7, [.null, .null, .null, .null, .int (iZ 0), .int (iZ 0), .int (iZ 0), .int (iZ 0), .int (iZ 0), .int (iZ 0), .int (iZ 0)]))]) (w1 := wX2_init cA r q1) C hK hA hZ hN hP hD hS [1] [0] rfl rfl (by decide) (cX2_init_m l G D cA q1 H.size N hc) (cwI 0 hts (gAllI q25) rfl rfl rfl (hq _ q24) (hq _ q344) (hq _ q31) rfl (by decide +kernel) ⟨Nat.le_of_ble_eq_true rfl, Nat.le_of_ble_eq_true rfl⟩) hl.1 rfl (Nat.le_of_ble_eq_true rfl) ⟨Nat.le_of_ble_eq_true rfl, Nat.le_of_ble_eq_true rfl⟩ dX7_init_9 (fun u2 H locs hP hD hS => ?_)
  have hP : va_P D vwCl [(h, .inr (7, [.null, .null, .null, .null, .int (iZ 0), .int (iZ 0), .int (iZ 0), .int (iZ 0), .int (iZ 0), .int (iZ 0), .int (iZ 0)])), (q1, .inr (2, [.ref (u2 0), .ref (u2 1), .ref (u2 2), .ref (u2 3), .ref (u2 4), .int (iZ r.1), .int (iZ r.2.1), .int (iZ r.2.2.1)])), ((u2 0), zA (cA 0) 1536 (fun _ => 0)), ((u2 1), zA (cA 0) 24 r.2.2.2.1), ((u2 2), zA (cA 0) 24 r.2.2.2.2.1), ((u2 3), zA (cA 0) 6 r.2.2.2.2.2.2), ((u2 4), zA (cA 0) 4 r.2.2.2.2.2.1)] H := hP
  have hD : va_D A [(h, .inr (7, [.null, .null, .null, .null, .int (iZ 0), .int (iZ 0), .int (iZ 0), .int (iZ 0), .int (iZ 0), .int (iZ 0), .int (iZ 0)])), (q1, .inr (2, [.ref (u2 0), .ref (u2 1), .ref (u2 2), .ref (u2 3), .ref (u2 4), .int (iZ r.1), .int (iZ r.2.1), .int (iZ r.2.2.1)])), ((u2 0), zA (cA 0) 1536 (fun _ => 0)), ((u2 1), zA (cA 0) 24 r.2.2.2.1), ((u2 2), zA (cA 0) 24 r.2.2.2.2.1), ((u2 3), zA (cA 0) 6 r.2.2.2.2.2.2), ((u2 4), zA (cA 0) 4 r.2.2.2.2.2.1)] := hD
  refine W.widen (k := 6) (n := 1602) (Nat.le_of_ble_eq_true rfl) (Nat.le_of_ble_eq_true rfl) ?_
  refine z_putF (ci := 7) (v := .ref q1) (ty := (.object "FlickerDesk$Film")) (C := RX7) (T := TX7) (N := 11) (ws' := [(h, .inr (7, [.ref q1, .null, .null, .null, .int (iZ 0), .int (iZ 0), .int (iZ 0), .int (iZ 0), .int (iZ 0), .int (iZ 0), .int (iZ 0)])), (q1, .inr (2, [.ref (u2 0), .ref (u2 1), .ref (u2 2), .ref (u2 3), .ref (u2 4), .int (iZ r.1), .int (iZ r.2.1), .int (iZ r.2.2.1)])), ((u2 0), zA (cA 0) 1536 (fun _ => 0)), ((u2 1), zA (cA 0) 24 r.2.2.2.1), ((u2 2), zA (cA 0) 24 r.2.2.2.2.1), ((u2 3), zA (cA 0) 6 r.2.2.2.2.2.2), ((u2 4), zA (cA 0) 4 r.2.2.2.2.2.1)]) hx hb hq in_wsX70 tyX7 tyX7_ok nmX7 hown hK hP hD hS 0 rfl rfl 0 (by decide) (hq _ q338) (fun _ h9 => h9) rfl hin rfl (by decide +kernel) rfl rfl (Nat.le_of_ble_eq_true rfl) rfl dX7_init_12 (fun H locs hP hD hS => ?_)
  refine lv_aload_n hx hb dX7_init_15 rfl (lv_at hl 0 rfl) ?_
  refine z_sipush hx hb dX7_init_16 (by decide) ?_
  refine z_newI (N' := 900) hx hb (hq _ q19) hK hP hD hS hA (by decide) (by decide) (by decide) (Nat.le_of_ble_eq_true rfl) (Nat.le_of_ble_eq_true rfl) dX7_init_19 (fun q3 H hP hD hS => ?_)
  have hP : va_P D vwCl [(h, .inr (7, [.ref q1, .null, .null, .null, .int (iZ 0), .int (iZ 0), .int (iZ 0), .int (iZ 0), .int (iZ 0), .int (iZ 0), .int (iZ 0)])), (q1, .inr (2, [.ref (u2 0), .ref (u2 1), .ref (u2 2), .ref (u2 3), .ref (u2 4), .int (iZ r.1), .int (iZ r.2.1), .int (iZ r.2.2.1)])), ((u2 0), zA (cA 0) 1536 (fun _ => 0)), ((u2 1), zA (cA 0) 24 r.2.2.2.1), ((u2 2), zA (cA 0) 24 r.2.2.2.2.1), ((u2 3), zA (cA 0) 6 r.2.2.2.2.2.2), ((u2 4), zA (cA 0) 4 r.2.2.2.2.2.1), (q3, zA (cA 0) 900 (fun _ => 0))] H := hP
  have hD : va_D A [(h, .inr (7, [.ref q1, .null, .null, .null, .int (iZ 0), .int (iZ 0), .int (iZ 0), .int (iZ 0), .int (iZ 0), .int (iZ 0), .int (iZ 0)])), (q1, .inr (2, [.ref (u2 0), .ref (u2 1), .ref (u2 2), .ref (u2 3), .ref (u2 4), .int (iZ r.1), .int (iZ r.2.1), .int (iZ r.2.2.1)])), ((u2 0), zA (cA 0) 1536 (fun _ => 0)), ((u2 1), zA (cA 0) 24 r.2.2.2.1), ((u2 2), zA (cA 0) 24 r.2.2.2.2.1), ((u2 3), zA (cA 0) 6 r.2.2.2.2.2.2), ((u2 4), zA (cA 0) 4 r.2.2.2.2.2.1), (q3, zA (cA 0) 900 (fun _ => 0))] := hD
  refine W.widen (k := 7) (n := 2502) (Nat.le_of_ble_eq_true rfl) (Nat.le_of_ble_eq_true rfl) ?_
  refine z_putF (ci := 7) (v := .ref q3) (ty := (.array .int)) (C := RX7) (T := TX7) (N := 11) (ws' := [(h, .inr (7, [.ref q1, .ref q3, .null, .null, .int (iZ 0), .int (iZ 0), .int (iZ 0), .int (iZ 0), .int (iZ 0), .int (iZ 0), .int (iZ 0)])), (q1, .inr (2, [.ref (u2 0), .ref (u2 1), .ref (u2 2), .ref (u2 3), .ref (u2 4), .int (iZ r.1), .int (iZ r.2.1), .int (iZ r.2.2.1)])), ((u2 0), zA (cA 0) 1536 (fun _ => 0)), ((u2 1), zA (cA 0) 24 r.2.2.2.1), ((u2 2), zA (cA 0) 24 r.2.2.2.2.1), ((u2 3), zA (cA 0) 6 r.2.2.2.2.2.2), ((u2 4), zA (cA 0) 4 r.2.2.2.2.2.1), (q3, zA (cA 0) 900 (fun _ => 0))]) hx hb hq in_wsX70 tyX7 tyX7_ok nmX7 hown hK hP hD hS 0 rfl rfl 1 (by decide) (hq _ q339) (fun _ h9 => h9) rfl hin rfl (by decide +kernel) rfl rfl (Nat.le_of_ble_eq_true rfl) rfl dX7_init_21 (fun H locs hP hD hS => ?_)
  refine lv_aload_n hx hb dX7_init_24 rfl (lv_at hl 0 rfl) ?_
  refine z_bipush hx hb dX7_init_25 (by decide) ?_
  refine z_newZ (N' := 7) hx hb (hq _ q340) hK hP hD hS hA (by decide) (by decide) (by decide) (Nat.le_of_ble_eq_true rfl) (Nat.le_of_ble_eq_true rfl) dX7_init_27 (fun q4 H hP hD hS => ?_)
  have hP : va_P D vwCl [(h, .inr (7, [.ref q1, .ref q3, .null, .null, .int (iZ 0), .int (iZ 0), .int (iZ 0), .int (iZ 0), .int (iZ 0), .int (iZ 0), .int (iZ 0)])), (q1, .inr (2, [.ref (u2 0), .ref (u2 1), .ref (u2 2), .ref (u2 3), .ref (u2 4), .int (iZ r.1), .int (iZ r.2.1), .int (iZ r.2.2.1)])), ((u2 0), zA (cA 0) 1536 (fun _ => 0)), ((u2 1), zA (cA 0) 24 r.2.2.2.1), ((u2 2), zA (cA 0) 24 r.2.2.2.2.1), ((u2 3), zA (cA 0) 6 r.2.2.2.2.2.2), ((u2 4), zA (cA 0) 4 r.2.2.2.2.2.1), (q3, zA (cA 0) 900 (fun _ => 0)), (q4, zA (cA 2) 7 (fun _ => 0))] H := hP
  have hD : va_D A [(h, .inr (7, [.ref q1, .ref q3, .null, .null, .int (iZ 0), .int (iZ 0), .int (iZ 0), .int (iZ 0), .int (iZ 0), .int (iZ 0), .int (iZ 0)])), (q1, .inr (2, [.ref (u2 0), .ref (u2 1), .ref (u2 2), .ref (u2 3), .ref (u2 4), .int (iZ r.1), .int (iZ r.2.1), .int (iZ r.2.2.1)])), ((u2 0), zA (cA 0) 1536 (fun _ => 0)), ((u2 1), zA (cA 0) 24 r.2.2.2.1), ((u2 2), zA (cA 0) 24 r.2.2.2.2.1), ((u2 3), zA (cA 0) 6 r.2.2.2.2.2.2), ((u2 4), zA (cA 0) 4 r.2.2.2.2.2.1), (q3, zA (cA 0) 900 (fun _ => 0)), (q4, zA (cA 2) 7 (fun _ => 0))] := hD
  refine W.widen (k := 8) (n := 2509) (Nat.le_of_ble_eq_true rfl) (Nat.le_of_ble_eq_true rfl) ?_
  refine z_putF (ci := 7) (v := .ref q4) (ty := (.array .boolean)) (C := RX7) (T := TX7) (N := 11) (ws' := [(h, .inr (7, [.ref q1, .ref q3, .ref q4, .null, .int (iZ 0), .int (iZ 0), .int (iZ 0), .int (iZ 0), .int (iZ 0), .int (iZ 0), .int (iZ 0)])), (q1, .inr (2, [.ref (u2 0), .ref (u2 1), .ref (u2 2), .ref (u2 3), .ref (u2 4), .int (iZ r.1), .int (iZ r.2.1), .int (iZ r.2.2.1)])), ((u2 0), zA (cA 0) 1536 (fun _ => 0)), ((u2 1), zA (cA 0) 24 r.2.2.2.1), ((u2 2), zA (cA 0) 24 r.2.2.2.2.1), ((u2 3), zA (cA 0) 6 r.2.2.2.2.2.2), ((u2 4), zA (cA 0) 4 r.2.2.2.2.2.1), (q3, zA (cA 0) 900 (fun _ => 0)), (q4, zA (cA 2) 7 (fun _ => 0))]) hx hb hq in_wsX70 tyX7 tyX7_ok nmX7 hown hK hP hD hS 0 rfl rfl 2 (by decide) (hq _ q341) (fun _ h9 => h9) rfl hin rfl (by decide +kernel) rfl rfl (Nat.le_of_ble_eq_true rfl) rfl dX7_init_29 (fun H locs hP hD hS => ?_)
  refine lv_aload_n hx hb dX7_init_32 rfl (lv_at hl 0 rfl) ?_
  refine z_iconst hx hb dX7_init_33 ?_
  refine z_newZ (N' := 4) hx hb (hq _ q340) hK hP hD hS hA (by decide) (by decide) (by decide) (Nat.le_of_ble_eq_true rfl) (Nat.le_of_ble_eq_true rfl) dX7_init_34 (fun q5 H hP hD hS => ?_)
  have hP : va_P D vwCl [(h, .inr (7, [.ref q1, .ref q3, .ref q4, .null, .int (iZ 0), .int (iZ 0), .int (iZ 0), .int (iZ 0), .int (iZ 0), .int (iZ 0), .int (iZ 0)])), (q1, .inr (2, [.ref (u2 0), .ref (u2 1), .ref (u2 2), .ref (u2 3), .ref (u2 4), .int (iZ r.1), .int (iZ r.2.1), .int (iZ r.2.2.1)])), ((u2 0), zA (cA 0) 1536 (fun _ => 0)), ((u2 1), zA (cA 0) 24 r.2.2.2.1), ((u2 2), zA (cA 0) 24 r.2.2.2.2.1), ((u2 3), zA (cA 0) 6 r.2.2.2.2.2.2), ((u2 4), zA (cA 0) 4 r.2.2.2.2.2.1), (q3, zA (cA 0) 900 (fun _ => 0)), (q4, zA (cA 2) 7 (fun _ => 0)), (q5, zA (cA 2) 4 (fun _ => 0))] H := hP
  have hD : va_D A [(h, .inr (7, [.ref q1, .ref q3, .ref q4, .null, .int (iZ 0), .int (iZ 0), .int (iZ 0), .int (iZ 0), .int (iZ 0), .int (iZ 0), .int (iZ 0)])), (q1, .inr (2, [.ref (u2 0), .ref (u2 1), .ref (u2 2), .ref (u2 3), .ref (u2 4), .int (iZ r.1), .int (iZ r.2.1), .int (iZ r.2.2.1)])), ((u2 0), zA (cA 0) 1536 (fun _ => 0)), ((u2 1), zA (cA 0) 24 r.2.2.2.1), ((u2 2), zA (cA 0) 24 r.2.2.2.2.1), ((u2 3), zA (cA 0) 6 r.2.2.2.2.2.2), ((u2 4), zA (cA 0) 4 r.2.2.2.2.2.1), (q3, zA (cA 0) 900 (fun _ => 0)), (q4, zA (cA 2) 7 (fun _ => 0)), (q5, zA (cA 2) 4 (fun _ => 0))] := hD
  refine W.widen (k := 9) (n := 2513) (Nat.le_of_ble_eq_true rfl) (Nat.le_of_ble_eq_true rfl) ?_
  refine z_putF (ci := 7) (v := .ref q5) (ty := (.array .boolean)) (C := RX7) (T := TX7) (N := 11) (ws' := [(h, .inr (7, [.ref q1, .ref q3, .ref q4, .ref q5, .int (iZ 0), .int (iZ 0), .int (iZ 0), .int (iZ 0), .int (iZ 0), .int (iZ 0), .int (iZ 0)])), (q1, .inr (2, [.ref (u2 0), .ref (u2 1), .ref (u2 2), .ref (u2 3), .ref (u2 4), .int (iZ r.1), .int (iZ r.2.1), .int (iZ r.2.2.1)])), ((u2 0), zA (cA 0) 1536 (fun _ => 0)), ((u2 1), zA (cA 0) 24 r.2.2.2.1), ((u2 2), zA (cA 0) 24 r.2.2.2.2.1), ((u2 3), zA (cA 0) 6 r.2.2.2.2.2.2), ((u2 4), zA (cA 0) 4 r.2.2.2.2.2.1), (q3, zA (cA 0) 900 (fun _ => 0)), (q4, zA (cA 2) 7 (fun _ => 0)), (q5, zA (cA 2) 4 (fun _ => 0))]) hx hb hq in_wsX70 tyX7 tyX7_ok nmX7 hown hK hP hD hS 0 rfl rfl 3 (by decide) (hq _ q342) (fun _ h9 => h9) rfl hin rfl (by decide +kernel) rfl rfl (Nat.le_of_ble_eq_true rfl) rfl dX7_init_36 (fun H locs hP hD hS => ?_)
  refine lv_aload_n hx hb dX7_init_39 rfl (lv_at hl 0 rfl) ?_
  refine z_iconst hx hb dX7_init_40 ?_
  refine z_put (ci := 7) (v := .int (iZ ((-1)))) (ty := .int) (C := RX7) (T := TX7) (N := 11) (ws' := [(h, .inr (7, [.ref q1, .ref q3, .ref q4, .ref q5, .int (iZ 0), .int (iZ 0), .int (iZ ((-1))), .int (iZ 0), .int (iZ 0), .int (iZ 0), .int (iZ 0)])), (q1, .inr (2, [.ref (u2 0), .ref (u2 1), .ref (u2 2), .ref (u2 3), .ref (u2 4), .int (iZ r.1), .int (iZ r.2.1), .int (iZ r.2.2.1)])), ((u2 0), zA (cA 0) 1536 (fun _ => 0)), ((u2 1), zA (cA 0) 24 r.2.2.2.1), ((u2 2), zA (cA 0) 24 r.2.2.2.2.1), ((u2 3), zA (cA 0) 6 r.2.2.2.2.2.2), ((u2 4), zA (cA 0) 4 r.2.2.2.2.2.1), (q3, zA (cA 0) 900 (fun _ => 0)), (q4, zA (cA 2) 7 (fun _ => 0)), (q5, zA (cA 2) 4 (fun _ => 0))]) hx hb hq in_wsX70 tyX7 tyX7_ok nmX7 hown hK hP hD hS 0 rfl rfl 6 (by decide) (hq _ q343) (fun _ h9 => h9) rfl (by decide +kernel) rfl rfl (Nat.le_of_ble_eq_true rfl) rfl dX7_init_41 (fun H locs hP hD hS => ?_)
  obtain ⟨u9, hu9⟩ : ∃ u9 : Nat → Nat, u9 0 = q1 ∧ u9 1 = (u2 0) ∧ u9 2 = (u2 1) ∧ u9 3 = (u2 2) ∧ u9 4 = (u2 3) ∧ u9 5 = (u2 4) ∧ u9 6 = q3 ∧ u9 7 = q4 ∧ u9 8 = q5 := ⟨fun k => ([q1, (u2 0), (u2 1), (u2 2), (u2 3), (u2 4), q3, q4, q5] : List Nat).getD k 0, rfl, rfl, rfl, rfl, rfl, rfl, rfl, rfl, rfl⟩
  have hP9 := hP.sub (ws' := (wX7_init cA r h u9)) [0, 1, 2, 3, 4, 5, 6, 7, 8, 9] (by simp only [wX7_init, hu9]; rfl)
  have hD9 := hD.sub (ws' := (wX7_init cA r h u9)) [0, 1, 2, 3, 4, 5, 6, 7, 8, 9] (by decide) (by simp only [wX7_init, hu9]; rfl)
  exact W.vret B.exec B.bytes B.returns (fun t ht hW => ⟨⟨u9, rfl, trivial, by rw [ht]; exact hP9, va_K.moved hW.alike hK, hD9⟩, hS.F ht⟩) hS.2.2 dX7_init_44

/-! ===== FlickerDesk$Evening() ===== -/
abbrev rmX1_init : Room := { frames := 2, cells := 16, slots := 3364, locals := 32 }
abbrev wX1_init (cA : Nat → ClassId) (h : Nat) (u : Nat → Nat) : va_W := [(h, .inr (1, [.ref (u 0), .ref (u 2), .ref (u 4), .ref (u 8), .ref (u 13), .ref (u 14), .ref (u 15), .int (iZ 0), .int (iZ 0)])), ((u 0), .inr (9, [.ref (u 1)])), ((u 1), zA (cA 0) 384 (fun _ => 0)), ((u 2), .inr (9, [.ref (u 3)])), ((u 3), zA (cA 0) 384 (fun _ => 0)), ((u 4), .inr (8, [.ref (u 5), .ref (u 6), .ref (u 7), .int (iZ 0)])), ((u 5), zA (cA 0) 24 (fun _ => 0)), ((u 6), zA (cA 0) 25 (fun _ => 0)), ((u 7), zA (cA 0) 24 (fun _ => 0)), ((u 8), .inr (6, [.ref (u 9), .ref (u 10), .ref (u 11), .ref (u 12), .int (iZ 0)])), ((u 9), zA (cA 0) 64 (fun _ => 0)), ((u 10), zA (cA 0) 64 (fun _ => 0)), ((u 11), zA (cA 0) 64 (fun _ => 0)), ((u 12), zA (cA 0) 16 (fun _ => 0)), ((u 13), zA (cA 0) 384 (fun _ => 0)), ((u 14), zA (cA 0) 384 (fun _ => 0)), ((u 15), zA (cA 0) 1536 (fun _ => 0))]
set_option maxHeartbeats 4000000 in
set_option maxRecDepth 100000 in
theorem cX1_init_m (l : Launch) (G : ZG) (D : va_G) (cA : Nat → ClassId) (h sz : Nat) : zMc l yX1_init vX1_init rmX1_init G D cA h [(h, .inr (1, [.null, .null, .null, .null, .null, .null, .null, .int (iZ 0), .int (iZ 0)]))] (wX1_init cA h) 16 3364 sz := by
  refine Met.ofW (cc := cX1_init) (maxL := 1) (ret := none) (by decide) rfl ?_
  intro p e s m args below meth c s₁ B hml hv
  obtain ⟨rfl, ⟨hsz, hP, hK, hD0, hZ⟩, hN⟩ := hv
  subst hsz
  have hlocks := B.notSynchronized
  have hl := lv_entry ([.ref h]) (n := 1) (Nat.le_of_ble_eq_true rfl)
  rw [lg_entry_eq]
  generalize (lg_sl ([.ref h]) ++ List.replicate (1 - (lg_sl ([.ref h])).length) Slot.unset).toArray = ls at hl ⊢
  have hl : lv_has ls 1 [(0, .ref h)] := hl
  have hx := B.exec
  have hb := B.bytes
  have hts := atoms_spec (ws := vX1_init) B.pre
  have hown : s.vm.findClass RX1 = some m.cls := findClass_of_methodNamed B.named
  have hin : meth.name = "<init>" := (name_of_methodNamed B.named B.method).1
  have hq : ∀ w ∈ wAll, w.before _ s = true := fun w h => hts w (List.mem_cons_of_mem _ h)
  have hD := hD0.self (sz := s.heap.size)
  have hS : va_S (va_A [(h, .inr (1, [.null, .null, .null, .null, .null, .null, .null, .int (iZ 0), .int (iZ 0)]))] s.heap.size) s.heap s.heap [] := va_S.rf
  have hA : ∀ q, s.heap.size ≤ q → va_A [(h, .inr (1, [.null, .null, .null, .null, .null, .null, .null, .int (iZ 0), .int (iZ 0)]))] s.heap.size q := fun q h => Or.inr h
  generalize hAe : va_A [(h, .inr (1, [.null, .null, .null, .null, .null, .null, .null, .int (iZ 0), .int (iZ 0)]))] s.heap.size = A at hD hS hA hZ ⊢
  have C : CallFix p m c cX1_init 1 s _ vX1_init RX1 := ⟨hx, hb, hml, hown, hts⟩
  refine lv_aload_n hx hb dX1_init_0 rfl (lv_at hl 0 rfl) ?_
  refine W.objInit hx hb hown (hq _ q63) (hq _ q17) (hq _ q18) rfl (by rw [hml]; exact hl.1) rfl dX1_init_1 (Nat.le_of_ble_eq_true rfl) (Nat.le_of_ble_eq_true rfl) ?_
  refine W.eq (g2 := F0 m 4 ls []) rfl ?_
  refine lv_aload_n hx hb dX1_init_4 rfl (lv_at hl 0 rfl) ?_
  refine va_new (ci := 9) (fs := [.null]) (C := RX9) (T := TX9) (N := 1) hx hb hq in_wsX90 tyX9 tyX9_ok hown (hq _ q64) (hq _ q65) (hq _ q66) hK hP hD hS hA rfl (fun j hj => by rcases (show j = 0 by omega) with rfl <;> rfl) (Nat.le_of_ble_eq_true rfl) (Nat.le_of_ble_eq_true rfl) dX1_init_5 (fun q1 H hP hD hS => ?_)
  have hP : va_P D vwCl [(h, .inr (1, [.null, .null, .null, .null, .null, .null, .null, .int (iZ 0), .int (iZ 0)])), (q1, .inr (9, [.null]))] H := hP
  have hD : va_D A [(h, .inr (1, [.null, .null, .null, .null, .null, .null, .null, .int (iZ 0), .int (iZ 0)])), (q1, .inr (9, [.null]))] := hD
  refine W.widen (k := 1) (n := 1) (Nat.le_of_ble_eq_true rfl) (Nat.le_of_ble_eq_true rfl) ?_
  refine lv_dup hx hb dX1_init_8 rfl ?_
  refine z_callCN (G := G) (D := D) (cA := cA) (wc := [(q1, .inr (9, [.null]))]) (wr := [(h, .inr (1, [.null, .null, .null, .null, .null, .null, .null, .int (iZ 0), .int (iZ 0)]))]) (w1 := wX9_init cA q1) C hK hA hZ hN hP hD hS [1] [0] rfl rfl (by decide) (cX9_init_m l G D cA q1 H.size) ⟨va_cnB 0 hts (gAllI q49) rfl rfl rfl hN.1 (hq _ q66) (by decide +kernel) ⟨Nat.le_of_ble_eq_true rfl, Nat.le_of_ble_eq_true rfl⟩, rfl, hq _ q80⟩ hl.1 rfl (Nat.le_of_ble_eq_true rfl) ⟨Nat.le_of_ble_eq_true rfl, Nat.le_of_ble_eq_true rfl⟩ dX1_init_9 (fun u2 H locs hP hD hS => ?_)
  have hP : va_P D vwCl [(h, .inr (1, [.null, .null, .null, .null, .null, .null, .null, .int (iZ 0), .int (iZ 0)])), (q1, .inr (9, [.ref (u2 0)])), ((u2 0), zA (cA 0) 384 (fun _ => 0))] H := hP
  have hD : va_D A [(h, .inr (1, [.null, .null, .null, .null, .null, .null, .null, .int (iZ 0), .int (iZ 0)])), (q1, .inr (9, [.ref (u2 0)])), ((u2 0), zA (cA 0) 384 (fun _ => 0))] := hD
  refine W.widen (k := 2) (n := 385) (Nat.le_of_ble_eq_true rfl) (Nat.le_of_ble_eq_true rfl) ?_
  refine z_putF (ci := 1) (v := .ref q1) (ty := (.object "FlickerDesk$Tally")) (C := RX1) (T := TX1) (N := 9) (ws' := [(h, .inr (1, [.ref q1, .null, .null, .null, .null, .null, .null, .int (iZ 0), .int (iZ 0)])), (q1, .inr (9, [.ref (u2 0)])), ((u2 0), zA (cA 0) 384 (fun _ => 0))]) hx hb hq in_wsX10 tyX1 tyX1_ok nmX1 hown hK hP hD hS 0 rfl rfl 0 (by decide) (hq _ q67) (fun _ h9 => h9) rfl hin rfl (by decide +kernel) rfl rfl (Nat.le_of_ble_eq_true rfl) rfl dX1_init_12 (fun H locs hP hD hS => ?_)
  refine lv_aload_n hx hb dX1_init_15 rfl (lv_at hl 0 rfl) ?_
  refine va_new (ci := 9) (fs := [.null]) (C := RX9) (T := TX9) (N := 1) hx hb hq in_wsX90 tyX9 tyX9_ok hown (hq _ q64) (hq _ q65) (hq _ q66) hK hP hD hS hA rfl (fun j hj => by rcases (show j = 0 by omega) with rfl <;> rfl) (Nat.le_of_ble_eq_true rfl) (Nat.le_of_ble_eq_true rfl) dX1_init_16 (fun q3 H hP hD hS => ?_)
  have hP : va_P D vwCl [(h, .inr (1, [.ref q1, .null, .null, .null, .null, .null, .null, .int (iZ 0), .int (iZ 0)])), (q1, .inr (9, [.ref (u2 0)])), ((u2 0), zA (cA 0) 384 (fun _ => 0)), (q3, .inr (9, [.null]))] H := hP
  have hD : va_D A [(h, .inr (1, [.ref q1, .null, .null, .null, .null, .null, .null, .int (iZ 0), .int (iZ 0)])), (q1, .inr (9, [.ref (u2 0)])), ((u2 0), zA (cA 0) 384 (fun _ => 0)), (q3, .inr (9, [.null]))] := hD
  refine W.widen (k := 3) (n := 386) (Nat.le_of_ble_eq_true rfl) (Nat.le_of_ble_eq_true rfl) ?_
  refine lv_dup hx hb dX1_init_19 rfl ?_
  refine z_callCN (G := G) (D := D) (cA := cA) (wc := [(q3, .inr (9, [.null]))]) (wr := [(h, .inr (1, [.ref q1, .null, .null, .null, .null, .null, .null, .int (iZ 0), .int (iZ 0)])), (q1, .inr (9, [.ref (u2 0)])), ((u2 0), zA (cA 0) 384 (fun _ => 0))]) (w1 := wX9_init cA q3) C hK hA hZ hN hP hD hS [3] [0, 1, 2] rfl rfl (by decide) (cX9_init_m l G D cA q3 H.size) ⟨va_cnB 0 hts (gAllI q49) rfl rfl rfl hN.1 (hq _ q66) (by decide +kernel) ⟨Nat.le_of_ble_eq_true rfl, Nat.le_of_ble_eq_true rfl⟩, rfl, hq _ q80⟩ hl.1 rfl (Nat.le_of_ble_eq_true rfl) ⟨Nat.le_of_ble_eq_true rfl, Nat.le_of_ble_eq_true rfl⟩ dX1_init_20 (fun u4 H locs hP hD hS => ?_)
  have hP : va_P D vwCl [(h, .inr (1, [.ref q1, .null, .null, .null, .null, .null, .null, .int (iZ 0), .int (iZ 0)])), (q1, .inr (9, [.ref (u2 0)])), ((u2 0), zA (cA 0) 384 (fun _ => 0)), (q3, .inr (9, [.ref (u4 0)])), ((u4 0), zA (cA 0) 384 (fun _ => 0))] H := hP
  have hD : va_D A [(h, .inr (1, [.ref q1, .null, .null, .null, .null, .null, .null, .int (iZ 0), .int (iZ 0)])), (q1, .inr (9, [.ref (u2 0)])), ((u2 0), zA (cA 0) 384 (fun _ => 0)), (q3, .inr (9, [.ref (u4 0)])), ((u4 0), zA (cA 0) 384 (fun _ => 0))] := hD
  refine W.widen (k := 4) (n := 770) (Nat.le_of_ble_eq_true rfl) (Nat.le_of_ble_eq_true rfl) ?_
  refine z_putF (ci := 1) (v := .ref q3) (ty := (.object "FlickerDesk$Tally")) (C := RX1) (T := TX1) (N := 9) (ws' := [(h, .inr (1, [.ref q1, .ref q3, .null, .null, .null, .null, .null, .int (iZ 0), .int (iZ 0)])), (q1, .inr (9, [.ref (u2 0)])), ((u2 0), zA (cA 0) 384 (fun _ => 0)), (q3, .inr (9, [.ref (u4 0)])), ((u4 0), zA (cA 0) 384 (fun _ => 0))]) hx hb hq in_wsX10 tyX1 tyX1_ok nmX1 hown hK hP hD hS 0 rfl rfl 1 (by decide) (hq _ q68) (fun _ h9 => h9) rfl hin rfl (by decide +kernel) rfl rfl (Nat.le_of_ble_eq_true rfl) rfl dX1_init_23 (fun H locs hP hD hS => ?_)
  refine lv_aload_n hx hb dX1_init_26 rfl (lv_at hl 0 rfl) ?_
  refine va_new (ci := 8) (fs := [.null, .null, .null, .int (iZ 0)]) (C := RX8) (T := TX8) (N := 4) hx hb hq in_wsX80 tyX8 tyX8_ok hown (hq _ q69) (hq _ q70) (hq _ q71) hK hP hD hS hA rfl (fun j hj => by rcases (show j = 0 ∨ j = 1 ∨ j = 2 ∨ j = 3 by omega) with rfl | rfl | rfl | rfl <;> rfl) (Nat.le_of_ble_eq_true rfl) (Nat.le_of_ble_eq_true rfl) dX1_init_27 (fun q5 H hP hD hS => ?_)
  have hP : va_P D vwCl [(h, .inr (1, [.ref q1, .ref q3, .null, .null, .null, .null, .null, .int (iZ 0), .int (iZ 0)])), (q1, .inr (9, [.ref (u2 0)])), ((u2 0), zA (cA 0) 384 (fun _ => 0)), (q3, .inr (9, [.ref (u4 0)])), ((u4 0), zA (cA 0) 384 (fun _ => 0)), (q5, .inr (8, [.null, .null, .null, .int (iZ 0)]))] H := hP
  have hD : va_D A [(h, .inr (1, [.ref q1, .ref q3, .null, .null, .null, .null, .null, .int (iZ 0), .int (iZ 0)])), (q1, .inr (9, [.ref (u2 0)])), ((u2 0), zA (cA 0) 384 (fun _ => 0)), (q3, .inr (9, [.ref (u4 0)])), ((u4 0), zA (cA 0) 384 (fun _ => 0)), (q5, .inr (8, [.null, .null, .null, .int (iZ 0)]))] := hD
  refine W.widen (k := 5) (n := 774) (Nat.le_of_ble_eq_true rfl) (Nat.le_of_ble_eq_true rfl) ?_
  refine lv_dup hx hb dX1_init_30 rfl ?_
  refine z_callCN (G := G) (D := D) (cA := cA) (wc := [(q5, .inr (8, [.null, .null, .null, .int (iZ 0)]))]) (wr := [(h, .inr (1, [.ref q1, .ref q3, .null, .null, .null, .null, .null, .int (iZ 0), .int (iZ 0)])), (q1, .inr (9, [.ref (u2 0)])), ((u2 0), zA (cA 0) 384 (fun _ => 0)), (q3, .inr (9, [.ref (u4 0)])), ((u4 0), zA (cA 0) 384 (fun _ => 0))]) (w1 := wX8_init cA q5) C hK hA hZ hN hP hD hS [5] [0, 1, 2, 3, 4] rfl rfl (by decide) (cX8_init_m l G D cA q5 H.size) ⟨va_cnB 0 hts (gAllI q52) rfl rfl rfl hN.2.1 (hq _ q71) (by decide +kernel) ⟨Nat.le_of_ble_eq_true rfl, Nat.le_of_ble_eq_true rfl⟩, rfl, hq _ q81⟩ hl.1 rfl (Nat.le_of_ble_eq_true rfl) ⟨Nat.le_of_ble_eq_true rfl, Nat.le_of_ble_eq_true rfl⟩ dX1_init_31 (fun u6 H locs hP hD hS => ?_)
  have hP : va_P D vwCl [(h, .inr (1, [.ref q1, .ref q3, .null, .null, .null, .null, .null, .int (iZ 0), .int (iZ 0)])), (q1, .inr (9, [.ref (u2 0)])), ((u2 0), zA (cA 0) 384 (fun _ => 0)), (q3, .inr (9, [.ref (u4 0)])), ((u4 0), zA (cA 0) 384 (fun _ => 0)), (q5, .inr (8, [.ref (u6 0), .ref (u6 1), .ref (u6 2), .int (iZ 0)])), ((u6 0), zA (cA 0) 24 (fun _ => 0)), ((u6 1), zA (cA 0) 25 (fun _ => 0)), ((u6 2), zA (cA 0) 24 (fun _ => 0))] H := hP
  have hD : va_D A [(h, .inr (1, [.ref q1, .ref q3, .null, .null, .null, .null, .null, .int (iZ 0), .int (iZ 0)])), (q1, .inr (9, [.ref (u2 0)])), ((u2 0), zA (cA 0) 384 (fun _ => 0)), (q3, .inr (9, [.ref (u4 0)])), ((u4 0), zA (cA 0) 384 (fun _ => 0)), (q5, .inr (8, [.ref (u6 0), .ref (u6 1), .ref (u6 2), .int (iZ 0)])), ((u6 0), zA (cA 0) 24 (fun _ => 0)), ((u6 1), zA (cA 0) 25 (fun _ => 0)), ((u6 2), zA (cA 0) 24 (fun _ => 0))] := hD
  refine W.widen (k := 8) (n := 847) (Nat.le_of_ble_eq_true rfl) (Nat.le_of_ble_eq_true rfl) ?_
  refine z_putF (ci := 1) (v := .ref q5) (ty := (.object "FlickerDesk$Scenes")) (C := RX1) (T := TX1) (N := 9) (ws' := [(h, .inr (1, [.ref q1, .ref q3, .ref q5, .null, .null, .null, .null, .int (iZ 0), .int (iZ 0)])), (q1, .inr (9, [.ref (u2 0)])), ((u2 0), zA (cA 0) 384 (fun _ => 0)), (q3, .inr (9, [.ref (u4 0)])), ((u4 0), zA (cA 0) 384 (fun _ => 0)), (q5, .inr (8, [.ref (u6 0), .ref (u6 1), .ref (u6 2), .int (iZ 0)])), ((u6 0), zA (cA 0) 24 (fun _ => 0)), ((u6 1), zA (cA 0) 25 (fun _ => 0)), ((u6 2), zA (cA 0) 24 (fun _ => 0))]) hx hb hq in_wsX10 tyX1 tyX1_ok nmX1 hown hK hP hD hS 0 rfl rfl 2 (by decide) (hq _ q72) (fun _ h9 => h9) rfl hin rfl (by decide +kernel) rfl rfl (Nat.le_of_ble_eq_true rfl) rfl dX1_init_34 (fun H locs hP hD hS => ?_)
  refine lv_aload_n hx hb dX1_init_37 rfl (lv_at hl 0 rfl) ?_
  refine va_new (ci := 6) (fs := [.null, .null, .null, .null, .int (iZ 0)]) (C := RX6) (T := TX6) (N := 5) hx hb hq in_wsX60 tyX6 tyX6_ok hown (hq _ q73) (hq _ q74) (hq _ q75) hK hP hD hS hA rfl (fun j hj => by rcases (show j = 0 ∨ j = 1 ∨ j = 2 ∨ j = 3 ∨ j = 4 by omega) with rfl | rfl | rfl | rfl | rfl <;> rfl) (Nat.le_of_ble_eq_true rfl) (Nat.le_of_ble_eq_true rfl) dX1_init_38 (fun q7 H hP hD hS => ?_)
  have hP : va_P D vwCl [(h, .inr (1, [.ref q1, .ref q3, .ref q5, .null, .null, .null, .null, .int (iZ 0), .int (iZ 0)])), (q1, .inr (9, [.ref (u2 0)])), ((u2 0), zA (cA 0) 384 (fun _ => 0)), (q3, .inr (9, [.ref (u4 0)])), ((u4 0), zA (cA 0) 384 (fun _ => 0)), (q5, .inr (8, [.ref (u6 0), .ref (u6 1), .ref (u6 2), .int (iZ 0)])), ((u6 0), zA (cA 0) 24 (fun _ => 0)), ((u6 1), zA (cA 0) 25 (fun _ => 0)), ((u6 2), zA (cA 0) 24 (fun _ => 0)), (q7, .inr (6, [.null, .null, .null, .null, .int (iZ 0)]))] H := hP
  have hD : va_D A [(h, .inr (1, [.ref q1, .ref q3, .ref q5, .null, .null, .null, .null, .int (iZ 0), .int (iZ 0)])), (q1, .inr (9, [.ref (u2 0)])), ((u2 0), zA (cA 0) 384 (fun _ => 0)), (q3, .inr (9, [.ref (u4 0)])), ((u4 0), zA (cA 0) 384 (fun _ => 0)), (q5, .inr (8, [.ref (u6 0), .ref (u6 1), .ref (u6 2), .int (iZ 0)])), ((u6 0), zA (cA 0) 24 (fun _ => 0)), ((u6 1), zA (cA 0) 25 (fun _ => 0)), ((u6 2), zA (cA 0) 24 (fun _ => 0)), (q7, .inr (6, [.null, .null, .null, .null, .int (iZ 0)]))] := hD
  refine W.widen (k := 9) (n := 852) (Nat.le_of_ble_eq_true rfl) (Nat.le_of_ble_eq_true rfl) ?_
  refine lv_dup hx hb dX1_init_41 rfl ?_
  refine z_callCN (G := G) (D := D) (cA := cA) (wc := [(q7, .inr (6, [.null, .null, .null, .null, .int (iZ 0)]))]) (wr := [(h, .inr (1, [.ref q1, .ref q3, .ref q5, .null, .null, .null, .null, .int (iZ 0), .int (iZ 0)])), (q1, .inr (9, [.ref (u2 0)])), ((u2 0), zA (cA 0) 384 (fun _ => 0)), (q3, .inr (9, [.ref (u4 0)])), ((u4 0), zA (cA 0) 384 (fun _ => 0)), (q5, .inr (8, [.ref (u6 0), .ref (u6 1), .ref (u6 2), .int (iZ 0)])), ((u6 0), zA (cA 0) 24 (fun _ => 0)), ((u6 1), zA (cA 0) 25 (fun _ => 0)), ((u6 2), zA (cA 0) 24 (fun _ => 0))]) (w1 := wX6_init cA q7) C hK hA hZ hN hP hD hS [9] [0, 1, 2, 3, 4, 5, 6, 7, 8] rfl rfl (by decide) (cX6_init_m l G D cA q7 H.size) ⟨va_cnB 0 hts (gAllI q57) rfl rfl rfl hN.2.2.1 (hq _ q75) (by decide +kernel) ⟨Nat.le_of_ble_eq_true rfl, Nat.le_of_ble_eq_true rfl⟩, rfl, hq _ q82⟩ hl.1 rfl (Nat.le_of_ble_eq_true rfl) ⟨Nat.le_of_ble_eq_true rfl, Nat.le_of_ble_eq_true rfl⟩ dX1_init_42 (fun u8 H locs hP hD hS => ?_)
  have hP : va_P D vwCl [(h, .inr (1, [.ref q1, .ref q3, .ref q5, .null, .null, .null, .null, .int (iZ 0), .int (iZ 0)])), (q1, .inr (9, [.ref (u2 0)])), ((u2 0), zA (cA 0) 384 (fun _ => 0)), (q3, .inr (9, [.ref (u4 0)])), ((u4 0), zA (cA 0) 384 (fun _ => 0)), (q5, .inr (8, [.ref (u6 0), .ref (u6 1), .ref (u6 2), .int (iZ 0)])), ((u6 0), zA (cA 0) 24 (fun _ => 0)), ((u6 1), zA (cA 0) 25 (fun _ => 0)), ((u6 2), zA (cA 0) 24 (fun _ => 0)), (q7, .inr (6, [.ref (u8 0), .ref (u8 1), .ref (u8 2), .ref (u8 3), .int (iZ 0)])), ((u8 0), zA (cA 0) 64 (fun _ => 0)), ((u8 1), zA (cA 0) 64 (fun _ => 0)), ((u8 2), zA (cA 0) 64 (fun _ => 0)), ((u8 3), zA (cA 0) 16 (fun _ => 0))] H := hP
  have hD : va_D A [(h, .inr (1, [.ref q1, .ref q3, .ref q5, .null, .null, .null, .null, .int (iZ 0), .int (iZ 0)])), (q1, .inr (9, [.ref (u2 0)])), ((u2 0), zA (cA 0) 384 (fun _ => 0)), (q3, .inr (9, [.ref (u4 0)])), ((u4 0), zA (cA 0) 384 (fun _ => 0)), (q5, .inr (8, [.ref (u6 0), .ref (u6 1), .ref (u6 2), .int (iZ 0)])), ((u6 0), zA (cA 0) 24 (fun _ => 0)), ((u6 1), zA (cA 0) 25 (fun _ => 0)), ((u6 2), zA (cA 0) 24 (fun _ => 0)), (q7, .inr (6, [.ref (u8 0), .ref (u8 1), .ref (u8 2), .ref (u8 3), .int (iZ 0)])), ((u8 0), zA (cA 0) 64 (fun _ => 0)), ((u8 1), zA (cA 0) 64 (fun _ => 0)), ((u8 2), zA (cA 0) 64 (fun _ => 0)), ((u8 3), zA (cA 0) 16 (fun _ => 0))] := hD
  refine W.widen (k := 13) (n := 1060) (Nat.le_of_ble_eq_true rfl) (Nat.le_of_ble_eq_true rfl) ?_
  refine z_putF (ci := 1) (v := .ref q7) (ty := (.object "FlickerDesk$Ranks")) (C := RX1) (T := TX1) (N := 9) (ws' := [(h, .inr (1, [.ref q1, .ref q3, .ref q5, .ref q7, .null, .null, .null, .int (iZ 0), .int (iZ 0)])), (q1, .inr (9, [.ref (u2 0)])), ((u2 0), zA (cA 0) 384 (fun _ => 0)), (q3, .inr (9, [.ref (u4 0)])), ((u4 0), zA (cA 0) 384 (fun _ => 0)), (q5, .inr (8, [.ref (u6 0), .ref (u6 1), .ref (u6 2), .int (iZ 0)])), ((u6 0), zA (cA 0) 24 (fun _ => 0)), ((u6 1), zA (cA 0) 25 (fun _ => 0)), ((u6 2), zA (cA 0) 24 (fun _ => 0)), (q7, .inr (6, [.ref (u8 0), .ref (u8 1), .ref (u8 2), .ref (u8 3), .int (iZ 0)])), ((u8 0), zA (cA 0) 64 (fun _ => 0)), ((u8 1), zA (cA 0) 64 (fun _ => 0)), ((u8 2), zA (cA 0) 64 (fun _ => 0)), ((u8 3), zA (cA 0) 16 (fun _ => 0))]) hx hb hq in_wsX10 tyX1 tyX1_ok nmX1 hown hK hP hD hS 0 rfl rfl 3 (by decide) (hq _ q76) (fun _ h9 => h9) rfl hin rfl (by decide +kernel) rfl rfl (Nat.le_of_ble_eq_true rfl) rfl dX1_init_45 (fun H locs hP hD hS => ?_)
  refine lv_aload_n hx hb dX1_init_48 rfl (lv_at hl 0 rfl) ?_
  refine z_sipush hx hb dX1_init_49 (by decide) ?_
  refine z_newI (N' := 384) hx hb (hq _ q19) hK hP hD hS hA (by decide) (by decide) (by decide) (Nat.le_of_ble_eq_true rfl) (Nat.le_of_ble_eq_true rfl) dX1_init_52 (fun q9 H hP hD hS => ?_)
  have hP : va_P D vwCl [(h, .inr (1, [.ref q1, .ref q3, .ref q5, .ref q7, .null, .null, .null, .int (iZ 0), .int (iZ 0)])), (q1, .inr (9, [.ref (u2 0)])), ((u2 0), zA (cA 0) 384 (fun _ => 0)), (q3, .inr (9, [.ref (u4 0)])), ((u4 0), zA (cA 0) 384 (fun _ => 0)), (q5, .inr (8, [.ref (u6 0), .ref (u6 1), .ref (u6 2), .int (iZ 0)])), ((u6 0), zA (cA 0) 24 (fun _ => 0)), ((u6 1), zA (cA 0) 25 (fun _ => 0)), ((u6 2), zA (cA 0) 24 (fun _ => 0)), (q7, .inr (6, [.ref (u8 0), .ref (u8 1), .ref (u8 2), .ref (u8 3), .int (iZ 0)])), ((u8 0), zA (cA 0) 64 (fun _ => 0)), ((u8 1), zA (cA 0) 64 (fun _ => 0)), ((u8 2), zA (cA 0) 64 (fun _ => 0)), ((u8 3), zA (cA 0) 16 (fun _ => 0)), (q9, zA (cA 0) 384 (fun _ => 0))] H := hP
  have hD : va_D A [(h, .inr (1, [.ref q1, .ref q3, .ref q5, .ref q7, .null, .null, .null, .int (iZ 0), .int (iZ 0)])), (q1, .inr (9, [.ref (u2 0)])), ((u2 0), zA (cA 0) 384 (fun _ => 0)), (q3, .inr (9, [.ref (u4 0)])), ((u4 0), zA (cA 0) 384 (fun _ => 0)), (q5, .inr (8, [.ref (u6 0), .ref (u6 1), .ref (u6 2), .int (iZ 0)])), ((u6 0), zA (cA 0) 24 (fun _ => 0)), ((u6 1), zA (cA 0) 25 (fun _ => 0)), ((u6 2), zA (cA 0) 24 (fun _ => 0)), (q7, .inr (6, [.ref (u8 0), .ref (u8 1), .ref (u8 2), .ref (u8 3), .int (iZ 0)])), ((u8 0), zA (cA 0) 64 (fun _ => 0)), ((u8 1), zA (cA 0) 64 (fun _ => 0)), ((u8 2), zA (cA 0) 64 (fun _ => 0)), ((u8 3), zA (cA 0) 16 (fun _ => 0)), (q9, zA (cA 0) 384 (fun _ => 0))] := hD
  refine W.widen (k := 14) (n := 1444) (Nat.le_of_ble_eq_true rfl) (Nat.le_of_ble_eq_true rfl) ?_
  refine z_putF (ci := 1) (v := .ref q9) (ty := (.array .int)) (C := RX1) (T := TX1) (N := 9) (ws' := [(h, .inr (1, [.ref q1, .ref q3, .ref q5, .ref q7, .ref q9, .null, .null, .int (iZ 0), .int (iZ 0)])), (q1, .inr (9, [.ref (u2 0)])), ((u2 0), zA (cA 0) 384 (fun _ => 0)), (q3, .inr (9, [.ref (u4 0)])), ((u4 0), zA (cA 0) 384 (fun _ => 0)), (q5, .inr (8, [.ref (u6 0), .ref (u6 1), .ref (u6 2), .int (iZ 0)])), ((u6 0), zA (cA 0) 24 (fun _ => 0)), ((u6 1), zA (cA 0) 25 (fun _ => 0)), ((u6 2), zA (cA 0) 24 (fun _ => 0)), (q7, .inr (6, [.ref (u8 0), .ref (u8 1), .ref (u8 2), .ref (u8 3), .int (iZ 0)])), ((u8 0), zA (cA 0) 64 (fun _ => 0)), ((u8 1), zA (cA 0) 64 (fun _ => 0)), ((u8 2), zA (cA 0) 64 (fun _ => 0)), ((u8 3), zA (cA 0) 16 (fun _ => 0)), (q9, zA (cA 0) 384 (fun _ => 0))]) hx hb hq in_wsX10 tyX1 tyX1_ok nmX1 hown hK hP hD hS 0 rfl rfl 4 (by decide) (hq _ q77) (fun _ h9 => h9) rfl hin rfl (by decide +kernel) rfl rfl (Nat.le_of_ble_eq_true rfl) rfl dX1_init_54 (fun H locs hP hD hS => ?_)
  refine lv_aload_n hx hb dX1_init_57 rfl (lv_at hl 0 rfl) ?_
  refine z_sipush hx hb dX1_init_58 (by decide) ?_
  refine z_newI (N' := 384) hx hb (hq _ q19) hK hP hD hS hA (by decide) (by decide) (by decide) (Nat.le_of_ble_eq_true rfl) (Nat.le_of_ble_eq_true rfl) dX1_init_61 (fun q10 H hP hD hS => ?_)
  have hP : va_P D vwCl [(h, .inr (1, [.ref q1, .ref q3, .ref q5, .ref q7, .ref q9, .null, .null, .int (iZ 0), .int (iZ 0)])), (q1, .inr (9, [.ref (u2 0)])), ((u2 0), zA (cA 0) 384 (fun _ => 0)), (q3, .inr (9, [.ref (u4 0)])), ((u4 0), zA (cA 0) 384 (fun _ => 0)), (q5, .inr (8, [.ref (u6 0), .ref (u6 1), .ref (u6 2), .int (iZ 0)])), ((u6 0), zA (cA 0) 24 (fun _ => 0)), ((u6 1), zA (cA 0) 25 (fun _ => 0)), ((u6 2), zA (cA 0) 24 (fun _ => 0)), (q7, .inr (6, [.ref (u8 0), .ref (u8 1), .ref (u8 2), .ref (u8 3), .int (iZ 0)])), ((u8 0), zA (cA 0) 64 (fun _ => 0)), ((u8 1), zA (cA 0) 64 (fun _ => 0)), ((u8 2), zA (cA 0) 64 (fun _ => 0)), ((u8 3), zA (cA 0) 16 (fun _ => 0)), (q9, zA (cA 0) 384 (fun _ => 0)), (q10, zA (cA 0) 384 (fun _ => 0))] H := hP
  have hD : va_D A [(h, .inr (1, [.ref q1, .ref q3, .ref q5, .ref q7, .ref q9, .null, .null, .int (iZ 0), .int (iZ 0)])), (q1, .inr (9, [.ref (u2 0)])), ((u2 0), zA (cA 0) 384 (fun _ => 0)), (q3, .inr (9, [.ref (u4 0)])), ((u4 0), zA (cA 0) 384 (fun _ => 0)), (q5, .inr (8, [.ref (u6 0), .ref (u6 1), .ref (u6 2), .int (iZ 0)])), ((u6 0), zA (cA 0) 24 (fun _ => 0)), ((u6 1), zA (cA 0) 25 (fun _ => 0)), ((u6 2), zA (cA 0) 24 (fun _ => 0)), (q7, .inr (6, [.ref (u8 0), .ref (u8 1), .ref (u8 2), .ref (u8 3), .int (iZ 0)])), ((u8 0), zA (cA 0) 64 (fun _ => 0)), ((u8 1), zA (cA 0) 64 (fun _ => 0)), ((u8 2), zA (cA 0) 64 (fun _ => 0)), ((u8 3), zA (cA 0) 16 (fun _ => 0)), (q9, zA (cA 0) 384 (fun _ => 0)), (q10, zA (cA 0) 384 (fun _ => 0))] := hD
  refine W.widen (k := 15) (n := 1828) (Nat.le_of_ble_eq_true rfl) (Nat.le_of_ble_eq_true rfl) ?_
  refine z_putF (ci := 1) (v := .ref q10) (ty := (.array .int)) (C := RX1) (T := TX1) (N := 9) (ws' := [(h, .inr (1, [.ref q1, .ref q3, .ref q5, .ref q7, .ref q9, .ref q10, .null, .int (iZ 0), .int (iZ 0)])), (q1, .inr (9, [.ref (u2 0)])), ((u2 0), zA (cA 0) 384 (fun _ => 0)), (q3, .inr (9, [.ref (u4 0)])), ((u4 0), zA (cA 0) 384 (fun _ => 0)), (q5, .inr (8, [.ref (u6 0), .ref (u6 1), .ref (u6 2), .int (iZ 0)])), ((u6 0), zA (cA 0) 24 (fun _ => 0)), ((u6 1), zA (cA 0) 25 (fun _ => 0)), ((u6 2), zA (cA 0) 24 (fun _ => 0)), (q7, .inr (6, [.ref (u8 0), .ref (u8 1), .ref (u8 2), .ref (u8 3), .int (iZ 0)])), ((u8 0), zA (cA 0) 64 (fun _ => 0)), ((u8 1), zA (cA 0) 64 (fun _ => 0)), ((u8 2), zA (cA 0) 64 (fun _ => 0)), ((u8 3), zA (cA 0) 16 (fun _ => 0)), (q9, zA (cA 0) 384 (fun _ => 0)), (q10, zA (cA 0) 384 (fun _ => 0))]) hx hb hq in_wsX10 tyX1 tyX1_ok nmX1 hown hK hP hD hS 0 rfl rfl 5 (by decide) (hq _ q78) (fun _ h9 => h9) rfl hin rfl (by decide +kernel) rfl rfl (Nat.le_of_ble_eq_true rfl) rfl dX1_init_63 (fun H locs hP hD hS => ?_)
  refine lv_aload_n hx hb dX1_init_66 rfl (lv_at hl 0 rfl) ?_
  refine z_sipush hx hb dX1_init_67 (by decide) ?_
  refine z_newI (N' := 1536) hx hb (hq _ q19) hK hP hD hS hA (by decide) (by decide) (by decide) (Nat.le_of_ble_eq_true rfl) (Nat.le_of_ble_eq_true rfl) dX1_init_70 (fun q11 H hP hD hS => ?_)
  have hP : va_P D vwCl [(h, .inr (1, [.ref q1, .ref q3, .ref q5, .ref q7, .ref q9, .ref q10, .null, .int (iZ 0), .int (iZ 0)])), (q1, .inr (9, [.ref (u2 0)])), ((u2 0), zA (cA 0) 384 (fun _ => 0)), (q3, .inr (9, [.ref (u4 0)])), ((u4 0), zA (cA 0) 384 (fun _ => 0)), (q5, .inr (8, [.ref (u6 0), .ref (u6 1), .ref (u6 2), .int (iZ 0)])), ((u6 0), zA (cA 0) 24 (fun _ => 0)), ((u6 1), zA (cA 0) 25 (fun _ => 0)), ((u6 2), zA (cA 0) 24 (fun _ => 0)), (q7, .inr (6, [.ref (u8 0), .ref (u8 1), .ref (u8 2), .ref (u8 3), .int (iZ 0)])), ((u8 0), zA (cA 0) 64 (fun _ => 0)), ((u8 1), zA (cA 0) 64 (fun _ => 0)), ((u8 2), zA (cA 0) 64 (fun _ => 0)), ((u8 3), zA (cA 0) 16 (fun _ => 0)), (q9, zA (cA 0) 384 (fun _ => 0)), (q10, zA (cA 0) 384 (fun _ => 0)), (q11, zA (cA 0) 1536 (fun _ => 0))] H := hP
  have hD : va_D A [(h, .inr (1, [.ref q1, .ref q3, .ref q5, .ref q7, .ref q9, .ref q10, .null, .int (iZ 0), .int (iZ 0)])), (q1, .inr (9, [.ref (u2 0)])), ((u2 0), zA (cA 0) 384 (fun _ => 0)), (q3, .inr (9, [.ref (u4 0)])), ((u4 0), zA (cA 0) 384 (fun _ => 0)), (q5, .inr (8, [.ref (u6 0), .ref (u6 1), .ref (u6 2), .int (iZ 0)])), ((u6 0), zA (cA 0) 24 (fun _ => 0)), ((u6 1), zA (cA 0) 25 (fun _ => 0)), ((u6 2), zA (cA 0) 24 (fun _ => 0)), (q7, .inr (6, [.ref (u8 0), .ref (u8 1), .ref (u8 2), .ref (u8 3), .int (iZ 0)])), ((u8 0), zA (cA 0) 64 (fun _ => 0)), ((u8 1), zA (cA 0) 64 (fun _ => 0)), ((u8 2), zA (cA 0) 64 (fun _ => 0)), ((u8 3), zA (cA 0) 16 (fun _ => 0)), (q9, zA (cA 0) 384 (fun _ => 0)), (q10, zA (cA 0) 384 (fun _ => 0)), (q11, zA (cA 0) 1536 (fun _ => 0))] := hD
  refine W.widen (k := 16) (n := 3364) (Nat.le_of_ble_eq_true rfl) (Nat.le_of_ble_eq_true rfl) ?_
  refine z_putF (ci := 1) (v := .ref q11) (ty := (.array .int)) (C := RX1) (T := TX1) (N := 9) (ws' := [(h, .inr (1, [.ref q1, .ref q3, .ref q5, .ref q7, .ref q9, .ref q10, .ref q11, .int (iZ 0), .int (iZ 0)])), (q1, .inr (9, [.ref (u2 0)])), ((u2 0), zA (cA 0) 384 (fun _ => 0)), (q3, .inr (9, [.ref (u4 0)])), ((u4 0), zA (cA 0) 384 (fun _ => 0)), (q5, .inr (8, [.ref (u6 0), .ref (u6 1), .ref (u6 2), .int (iZ 0)])), ((u6 0), zA (cA 0) 24 (fun _ => 0)), ((u6 1), zA (cA 0) 25 (fun _ => 0)), ((u6 2), zA (cA 0) 24 (fun _ => 0)), (q7, .inr (6, [.ref (u8 0), .ref (u8 1), .ref (u8 2), .ref (u8 3), .int (iZ 0)])), ((u8 0), zA (cA 0) 64 (fun _ => 0)), ((u8 1), zA (cA 0) 64 (fun _ => 0)), ((u8 2), zA (cA 0) 64 (fun _ => 0)), ((u8 3), zA (cA 0) 16 (fun _ => 0)), (q9, zA (cA 0) 384 (fun _ => 0)), (q10, zA (cA 0) 384 (fun _ => 0)), (q11, zA (cA 0) 1536 (fun _ => 0))]) hx hb hq in_wsX10 tyX1 tyX1_ok nmX1 hown hK hP hD hS 0 rfl rfl 6 (by decide) (hq _ q79) (fun _ h9 => h9) rfl hin rfl (by decide +kernel) rfl rfl (Nat.le_of_ble_eq_true rfl) rfl dX1_init_72 (fun H locs hP hD hS => ?_)
  obtain ⟨u9, hu9⟩ : ∃ u9 : Nat → Nat, u9 0 = q1 ∧ u9 1 = (u2 0) ∧ u9 2 = q3 ∧ u9 3 = (u4 0) ∧ u9 4 = q5 ∧ u9 5 = (u6 0) ∧ u9 6 = (u6 1) ∧ u9 7 = (u6 2) ∧ u9 8 = q7 ∧ u9 9 = (u8 0) ∧ u9 10 = (u8 1) ∧ u9 11 = (u8 2) ∧ u9 12 = (u8 3) ∧ u9 13 = q9 ∧ u9 14 = q10 ∧ u9 15 = q11 := ⟨fun k => ([q1, (u2 0), q3, (u4 0), q5, (u6 0), (u6 1), (u6 2), q7, (u8 0), (u8 1), (u8 2), (u8 3), q9, q10, q11] : List Nat).getD k 0, rfl, rfl, rfl, rfl, rfl, rfl, rfl, rfl, rfl, rfl, rfl, rfl, rfl, rfl, rfl, rfl⟩
  have hP9 := hP.sub (ws' := (wX1_init cA h u9)) [0, 1, 2, 3, 4, 5, 6, 7, 8, 9, 10, 11, 12, 13, 14, 15, 16] (by simp only [wX1_init, hu9]; rfl)
  have hD9 := hD.sub (ws' := (wX1_init cA h u9)) [0, 1, 2, 3, 4, 5, 6, 7, 8, 9, 10, 11, 12, 13, 14, 15, 16] (by decide) (by simp only [wX1_init, hu9]; rfl)
  exact W.vret B.exec B.bytes B.returns (fun t ht hW => ⟨⟨u9, rfl, trivial, by rw [ht]; exact hP9, va_K.moved hW.alike hK, hD9⟩, hS.F ht⟩) hS.2.2 dX1_init_75

/-! ===== FlickerDeskModel() ===== -/
abbrev rmX12_init : Room := { frames := 1, cells := 15, slots := 19931, locals := 21 }
abbrev wX12_init (cA : Nat → ClassId) (rp : (Nat → Int)) (h : Nat) (u : Nat → Nat) : va_W := [(h, .inr (11, [.ref (u 0), .ref (u 1), .ref (u 2), .int (iZ 0), .int (iZ 0), .ref (u 3), .int (iZ 0), .int (iZ 0), .int (iZ 0), .int (iZ 0), .int (iZ ((-1))), .int (iZ 0), .int (iZ 0), .int (iZ 0), .ref (u 4), .ref (u 5), .ref (u 6), .ref (u 7), .ref (u 8), .ref (u 9), .ref (u 10), .int (iZ 0), .ref (u 11), .ref (u 12), .ref (u 13), .ref (u 14)])), ((u 0), zA (cA 0) 1551 rp), ((u 1), zA (cA 0) 1551 (fun _ => 0)), ((u 2), zA (cA 0) 12408 (fun _ => 0)), ((u 3), zA (cA 1) 900 (fun _ => 0)), ((u 4), zA (cA 0) 384 (fun _ => 0)), ((u 5), zA (cA 0) 24 (fun _ => 0)), ((u 6), zA (cA 2) 24 (fun _ => 0)), ((u 7), zA (cA 0) 16 (fun _ => 0)), ((u 8), zA (cA 0) 16 (fun _ => 0)), ((u 9), zA (cA 0) 1536 (fun _ => 0)), ((u 10), zA (cA 0) 384 (fun _ => 0)), ((u 11), zA (cA 0) 64 (fun _ => 0)), ((u 12), zA (cA 0) 576 (fun _ => 0)), ((u 13), zA (cA 0) 225 (fun _ => 0)), ((u 14), zA (cA 0) 272 (fun _ => 0))]
set_option maxHeartbeats 4000000 in
set_option maxRecDepth 100000 in
theorem cX12_init_m (l : Launch) (G : ZG) (D : va_G) (cA : Nat → ClassId) (h sz : Nat) (N : Nat) {rp : (Nat → Int)} (hp : fX12_plain N (fun _ => 0) = some rp) : zMc l yX12_init vX12_init rmX12_init G D cA h [(h, .inr (11, [.null, .null, .null, .int (iZ 0), .int (iZ 0), .null, .int (iZ 0), .int (iZ 0), .int (iZ 0), .int (iZ 0), .int (iZ 0), .int (iZ 0), .int (iZ 0), .int (iZ 0), .null, .null, .null, .null, .null, .null, .null, .int (iZ 0), .null, .null, .null, .null]))] (wX12_init cA rp h) 15 19931 sz := by
  refine Met.ofW (cc := cX12_init) (maxL := 1) (ret := none) (by decide) rfl ?_
  intro p e s m args below meth c s₁ B hml hv
  obtain ⟨rfl, ⟨hsz, hP, hK, hD0, hZ⟩, hN⟩ := hv
  subst hsz
  have hlocks := B.notSynchronized
  have hl := lv_entry ([.ref h]) (n := 1) (Nat.le_of_ble_eq_true rfl)
  rw [lg_entry_eq]
  generalize (lg_sl ([.ref h]) ++ List.replicate (1 - (lg_sl ([.ref h])).length) Slot.unset).toArray = ls at hl ⊢
  have hl : lv_has ls 1 [(0, .ref h)] := hl
  have hx := B.exec
  have hb := B.bytes
  have hts := atoms_spec (ws := vX12_init) B.pre
  have hown : s.vm.findClass RX12 = some m.cls := findClass_of_methodNamed B.named
  have hin : meth.name = "<init>" := (name_of_methodNamed B.named B.method).1
  have hq : ∀ w ∈ wAll, w.before _ s = true := fun w h => hts w (List.mem_cons_of_mem _ h)
  have hD := hD0.self (sz := s.heap.size)
  have hS : va_S (va_A [(h, .inr (11, [.null, .null, .null, .int (iZ 0), .int (iZ 0), .null, .int (iZ 0), .int (iZ 0), .int (iZ 0), .int (iZ 0), .int (iZ 0), .int (iZ 0), .int (iZ 0), .int (iZ 0), .null, .null, .null, .null, .null, .null, .null, .int (iZ 0), .null, .null, .null, .null]))] s.heap.size) s.heap s.heap [] := va_S.rf
  have hA : ∀ q, s.heap.size ≤ q → va_A [(h, .inr (11, [.null, .null, .null, .int (iZ 0), .int (iZ 0), .null, .int (iZ 0), .int (iZ 0), .int (iZ 0), .int (iZ 0), .int (iZ 0), .int (iZ 0), .int (iZ 0), .int (iZ 0), .null, .null, .null, .null, .null, .null, .null, .int (iZ 0), .null, .null, .null, .null]))] s.heap.size q := fun q h => Or.inr h
  generalize hAe : va_A [(h, .inr (11, [.null, .null, .null, .int (iZ 0), .int (iZ 0), .null, .int (iZ 0), .int (iZ 0), .int (iZ 0), .int (iZ 0), .int (iZ 0), .int (iZ 0), .int (iZ 0), .int (iZ 0), .null, .null, .null, .null, .null, .null, .null, .int (iZ 0), .null, .null, .null, .null]))] s.heap.size = A at hD hS hA hZ ⊢
  have C : CallFix p m c cX12_init 1 s _ vX12_init RX12 := ⟨hx, hb, hml, hown, hts⟩
  refine lv_aload_n hx hb dX12_init_0 rfl (lv_at hl 0 rfl) ?_
  refine W.objInit hx hb hown (hq _ q729) (hq _ q17) (hq _ q18) rfl (by rw [hml]; exact hl.1) rfl dX12_init_1 (Nat.le_of_ble_eq_true rfl) (Nat.le_of_ble_eq_true rfl) ?_
  refine W.eq (g2 := F0 m 4 ls []) rfl ?_
  refine lv_aload_n hx hb dX12_init_4 rfl (lv_at hl 0 rfl) ?_
  refine z_sipush hx hb dX12_init_5 (by decide) ?_
  refine z_newI (N' := 1551) hx hb (hq _ q19) hK hP hD hS hA (by decide) (by decide) (by decide) (Nat.le_of_ble_eq_true rfl) (Nat.le_of_ble_eq_true rfl) dX12_init_8 (fun q1 H hP hD hS => ?_)
  have hP : va_P D vwCl [(h, .inr (11, [.null, .null, .null, .int (iZ 0), .int (iZ 0), .null, .int (iZ 0), .int (iZ 0), .int (iZ 0), .int (iZ 0), .int (iZ 0), .int (iZ 0), .int (iZ 0), .int (iZ 0), .null, .null, .null, .null, .null, .null, .null, .int (iZ 0), .null, .null, .null, .null])), (q1, zA (cA 0) 1551 (fun _ => 0))] H := hP
  have hD : va_D A [(h, .inr (11, [.null, .null, .null, .int (iZ 0), .int (iZ 0), .null, .int (iZ 0), .int (iZ 0), .int (iZ 0), .int (iZ 0), .int (iZ 0), .int (iZ 0), .int (iZ 0), .int (iZ 0), .null, .null, .null, .null, .null, .null, .null, .int (iZ 0), .null, .null, .null, .null])), (q1, zA (cA 0) 1551 (fun _ => 0))] := hD
  refine W.widen (k := 1) (n := 1551) (Nat.le_of_ble_eq_true rfl) (Nat.le_of_ble_eq_true rfl) ?_
  refine z_putF (ci := 11) (v := .ref q1) (ty := (.array .int)) (C := RX12) (T := TX12) (N := 26) (ws' := [(h, .inr (11, [.ref q1, .null, .null, .int (iZ 0), .int (iZ 0), .null, .int (iZ 0), .int (iZ 0), .int (iZ 0), .int (iZ 0), .int (iZ 0), .int (iZ 0), .int (iZ 0), .int (iZ 0), .null, .null, .null, .null, .null, .null, .null, .int (iZ 0), .null, .null, .null, .null])), (q1, zA (cA 0) 1551 (fun _ => 0))]) hx hb hq in_wsX120 tyX12 tyX12_ok nmX12 hown hK hP hD hS 0 rfl rfl 0 (by decide) (hq _ q728) (fun _ h9 => h9) rfl hin rfl (by decide +kernel) rfl rfl (Nat.le_of_ble_eq_true rfl) rfl dX12_init_10 (fun H locs hP hD hS => ?_)
  refine lv_aload_n hx hb dX12_init_13 rfl (lv_at hl 0 rfl) ?_
  refine z_sipush hx hb dX12_init_14 (by decide) ?_
  refine z_newI (N' := 1551) hx hb (hq _ q19) hK hP hD hS hA (by decide) (by decide) (by decide) (Nat.le_of_ble_eq_true rfl) (Nat.le_of_ble_eq_true rfl) dX12_init_17 (fun q2 H hP hD hS => ?_)
  have hP : va_P D vwCl [(h, .inr (11, [.ref q1, .null, .null, .int (iZ 0), .int (iZ 0), .null, .int (iZ 0), .int (iZ 0), .int (iZ 0), .int (iZ 0), .int (iZ 0), .int (iZ 0), .int (iZ 0), .int (iZ 0), .null, .null, .null, .null, .null, .null, .null, .int (iZ 0), .null, .null, .null, .null])), (q1, zA (cA 0) 1551 (fun _ => 0)), (q2, zA (cA 0) 1551 (fun _ => 0))] H := hP
  have hD : va_D A [(h, .inr (11, [.ref q1, .null, .null, .int (iZ 0), .int (iZ 0), .null, .int (iZ 0), .int (iZ 0), .int (iZ 0), .int (iZ 0), .int (iZ 0), .int (iZ 0), .int (iZ 0), .int (iZ 0), .null, .null, .null, .null, .null, .null, .null, .int (iZ 0), .null, .null, .null, .null])), (q1, zA (cA 0) 1551 (fun _ => 0)), (q2, zA (cA 0) 1551 (fun _ => 0))] := hD
  refine W.widen (k := 2) (n := 3102) (Nat.le_of_ble_eq_true rfl) (Nat.le_of_ble_eq_true rfl) ?_
  refine z_putF (ci := 11) (v := .ref q2) (ty := (.array .int)) (C := RX12) (T := TX12) (N := 26) (ws' := [(h, .inr (11, [.ref q1, .ref q2, .null, .int (iZ 0), .int (iZ 0), .null, .int (iZ 0), .int (iZ 0), .int (iZ 0), .int (iZ 0), .int (iZ 0), .int (iZ 0), .int (iZ 0), .int (iZ 0), .null, .null, .null, .null, .null, .null, .null, .int (iZ 0), .null, .null, .null, .null])), (q1, zA (cA 0) 1551 (fun _ => 0)), (q2, zA (cA 0) 1551 (fun _ => 0))]) hx hb hq in_wsX120 tyX12 tyX12_ok nmX12 hown hK hP hD hS 0 rfl rfl 1 (by decide) (hq _ q730) (fun _ h9 => h9) rfl hin rfl (by decide +kernel) rfl rfl (Nat.le_of_ble_eq_true rfl) rfl dX12_init_19 (fun H locs hP hD hS => ?_)
  refine lv_aload_n hx hb dX12_init_22 rfl (lv_at hl 0 rfl) ?_
  refine z_sipush hx hb dX12_init_23 (by decide) ?_
  refine z_newI (N' := 12408) hx hb (hq _ q19) hK hP hD hS hA (by decide) (by decide) (by decide) (Nat.le_of_ble_eq_true rfl) (Nat.le_of_ble_eq_true rfl) dX12_init_26 (fun q3 H hP hD hS => ?_)
  have hP : va_P D vwCl [(h, .inr (11, [.ref q1, .ref q2, .null, .int (iZ 0), .int (iZ 0), .null, .int (iZ 0), .int (iZ 0), .int (iZ 0), .int (iZ 0), .int (iZ 0), .int (iZ 0), .int (iZ 0), .int (iZ 0), .null, .null, .null, .null, .null, .null, .null, .int (iZ 0), .null, .null, .null, .null])), (q1, zA (cA 0) 1551 (fun _ => 0)), (q2, zA (cA 0) 1551 (fun _ => 0)), (q3, zA (cA 0) 12408 (fun _ => 0))] H := hP
  have hD : va_D A [(h, .inr (11, [.ref q1, .ref q2, .null, .int (iZ 0), .int (iZ 0), .null, .int (iZ 0), .int (iZ 0), .int (iZ 0), .int (iZ 0), .int (iZ 0), .int (iZ 0), .int (iZ 0), .int (iZ 0), .null, .null, .null, .null, .null, .null, .null, .int (iZ 0), .null, .null, .null, .null])), (q1, zA (cA 0) 1551 (fun _ => 0)), (q2, zA (cA 0) 1551 (fun _ => 0)), (q3, zA (cA 0) 12408 (fun _ => 0))] := hD
  refine W.widen (k := 3) (n := 15510) (Nat.le_of_ble_eq_true rfl) (Nat.le_of_ble_eq_true rfl) ?_
  refine z_putF (ci := 11) (v := .ref q3) (ty := (.array .int)) (C := RX12) (T := TX12) (N := 26) (ws' := [(h, .inr (11, [.ref q1, .ref q2, .ref q3, .int (iZ 0), .int (iZ 0), .null, .int (iZ 0), .int (iZ 0), .int (iZ 0), .int (iZ 0), .int (iZ 0), .int (iZ 0), .int (iZ 0), .int (iZ 0), .null, .null, .null, .null, .null, .null, .null, .int (iZ 0), .null, .null, .null, .null])), (q1, zA (cA 0) 1551 (fun _ => 0)), (q2, zA (cA 0) 1551 (fun _ => 0)), (q3, zA (cA 0) 12408 (fun _ => 0))]) hx hb hq in_wsX120 tyX12 tyX12_ok nmX12 hown hK hP hD hS 0 rfl rfl 2 (by decide) (hq _ q731) (fun _ h9 => h9) rfl hin rfl (by decide +kernel) rfl rfl (Nat.le_of_ble_eq_true rfl) rfl dX12_init_28 (fun H locs hP hD hS => ?_)
  refine lv_aload_n hx hb dX12_init_31 rfl (lv_at hl 0 rfl) ?_
  refine z_sipush hx hb dX12_init_32 (by decide) ?_
  refine z_newB (N' := 900) hx hb (hq _ q732) hK hP hD hS hA (by decide) (by decide) (by decide) (Nat.le_of_ble_eq_true rfl) (Nat.le_of_ble_eq_true rfl) dX12_init_35 (fun q4 H hP hD hS => ?_)
  have hP : va_P D vwCl [(h, .inr (11, [.ref q1, .ref q2, .ref q3, .int (iZ 0), .int (iZ 0), .null, .int (iZ 0), .int (iZ 0), .int (iZ 0), .int (iZ 0), .int (iZ 0), .int (iZ 0), .int (iZ 0), .int (iZ 0), .null, .null, .null, .null, .null, .null, .null, .int (iZ 0), .null, .null, .null, .null])), (q1, zA (cA 0) 1551 (fun _ => 0)), (q2, zA (cA 0) 1551 (fun _ => 0)), (q3, zA (cA 0) 12408 (fun _ => 0)), (q4, zA (cA 1) 900 (fun _ => 0))] H := hP
  have hD : va_D A [(h, .inr (11, [.ref q1, .ref q2, .ref q3, .int (iZ 0), .int (iZ 0), .null, .int (iZ 0), .int (iZ 0), .int (iZ 0), .int (iZ 0), .int (iZ 0), .int (iZ 0), .int (iZ 0), .int (iZ 0), .null, .null, .null, .null, .null, .null, .null, .int (iZ 0), .null, .null, .null, .null])), (q1, zA (cA 0) 1551 (fun _ => 0)), (q2, zA (cA 0) 1551 (fun _ => 0)), (q3, zA (cA 0) 12408 (fun _ => 0)), (q4, zA (cA 1) 900 (fun _ => 0))] := hD
  refine W.widen (k := 4) (n := 16410) (Nat.le_of_ble_eq_true rfl) (Nat.le_of_ble_eq_true rfl) ?_
  refine z_putF (ci := 11) (v := .ref q4) (ty := (.array .byte)) (C := RX12) (T := TX12) (N := 26) (ws' := [(h, .inr (11, [.ref q1, .ref q2, .ref q3, .int (iZ 0), .int (iZ 0), .ref q4, .int (iZ 0), .int (iZ 0), .int (iZ 0), .int (iZ 0), .int (iZ 0), .int (iZ 0), .int (iZ 0), .int (iZ 0), .null, .null, .null, .null, .null, .null, .null, .int (iZ 0), .null, .null, .null, .null])), (q1, zA (cA 0) 1551 (fun _ => 0)), (q2, zA (cA 0) 1551 (fun _ => 0)), (q3, zA (cA 0) 12408 (fun _ => 0)), (q4, zA (cA 1) 900 (fun _ => 0))]) hx hb hq in_wsX120 tyX12 tyX12_ok nmX12 hown hK hP hD hS 0 rfl rfl 5 (by decide) (hq _ q733) (fun _ h9 => h9) rfl hin rfl (by decide +kernel) rfl rfl (Nat.le_of_ble_eq_true rfl) rfl dX12_init_37 (fun H locs hP hD hS => ?_)
  refine lv_aload_n hx hb dX12_init_40 rfl (lv_at hl 0 rfl) ?_
  refine z_iconst hx hb dX12_init_41 ?_
  refine z_put (ci := 11) (v := .int (iZ ((-1)))) (ty := .int) (C := RX12) (T := TX12) (N := 26) (ws' := [(h, .inr (11, [.ref q1, .ref q2, .ref q3, .int (iZ 0), .int (iZ 0), .ref q4, .int (iZ 0), .int (iZ 0), .int (iZ 0), .int (iZ 0), .int (iZ ((-1))), .int (iZ 0), .int (iZ 0), .int (iZ 0), .null, .null, .null, .null, .null, .null, .null, .int (iZ 0), .null, .null, .null, .null])), (q1, zA (cA 0) 1551 (fun _ => 0)), (q2, zA (cA 0) 1551 (fun _ => 0)), (q3, zA (cA 0) 12408 (fun _ => 0)), (q4, zA (cA 1) 900 (fun _ => 0))]) hx hb hq in_wsX120 tyX12 tyX12_ok nmX12 hown hK hP hD hS 0 rfl rfl 10 (by decide) (hq _ q734) (fun _ h9 => h9) rfl (by decide +kernel) rfl rfl (Nat.le_of_ble_eq_true rfl) rfl dX12_init_42 (fun H locs hP hD hS => ?_)
  refine lv_aload_n hx hb dX12_init_45 rfl (lv_at hl 0 rfl) ?_
  refine z_sipush hx hb dX12_init_46 (by decide) ?_
  refine z_newI (N' := 384) hx hb (hq _ q19) hK hP hD hS hA (by decide) (by decide) (by decide) (Nat.le_of_ble_eq_true rfl) (Nat.le_of_ble_eq_true rfl) dX12_init_49 (fun q5 H hP hD hS => ?_)
  have hP : va_P D vwCl [(h, .inr (11, [.ref q1, .ref q2, .ref q3, .int (iZ 0), .int (iZ 0), .ref q4, .int (iZ 0), .int (iZ 0), .int (iZ 0), .int (iZ 0), .int (iZ ((-1))), .int (iZ 0), .int (iZ 0), .int (iZ 0), .null, .null, .null, .null, .null, .null, .null, .int (iZ 0), .null, .null, .null, .null])), (q1, zA (cA 0) 1551 (fun _ => 0)), (q2, zA (cA 0) 1551 (fun _ => 0)), (q3, zA (cA 0) 12408 (fun _ => 0)), (q4, zA (cA 1) 900 (fun _ => 0)), (q5, zA (cA 0) 384 (fun _ => 0))] H := hP
  have hD : va_D A [(h, .inr (11, [.ref q1, .ref q2, .ref q3, .int (iZ 0), .int (iZ 0), .ref q4, .int (iZ 0), .int (iZ 0), .int (iZ 0), .int (iZ 0), .int (iZ ((-1))), .int (iZ 0), .int (iZ 0), .int (iZ 0), .null, .null, .null, .null, .null, .null, .null, .int (iZ 0), .null, .null, .null, .null])), (q1, zA (cA 0) 1551 (fun _ => 0)), (q2, zA (cA 0) 1551 (fun _ => 0)), (q3, zA (cA 0) 12408 (fun _ => 0)), (q4, zA (cA 1) 900 (fun _ => 0)), (q5, zA (cA 0) 384 (fun _ => 0))] := hD
  refine W.widen (k := 5) (n := 16794) (Nat.le_of_ble_eq_true rfl) (Nat.le_of_ble_eq_true rfl) ?_
  refine z_putF (ci := 11) (v := .ref q5) (ty := (.array .int)) (C := RX12) (T := TX12) (N := 26) (ws' := [(h, .inr (11, [.ref q1, .ref q2, .ref q3, .int (iZ 0), .int (iZ 0), .ref q4, .int (iZ 0), .int (iZ 0), .int (iZ 0), .int (iZ 0), .int (iZ ((-1))), .int (iZ 0), .int (iZ 0), .int (iZ 0), .ref q5, .null, .null, .null, .null, .null, .null, .int (iZ 0), .null, .null, .null, .null])), (q1, zA (cA 0) 1551 (fun _ => 0)), (q2, zA (cA 0) 1551 (fun _ => 0)), (q3, zA (cA 0) 12408 (fun _ => 0)), (q4, zA (cA 1) 900 (fun _ => 0)), (q5, zA (cA 0) 384 (fun _ => 0))]) hx hb hq in_wsX120 tyX12 tyX12_ok nmX12 hown hK hP hD hS 0 rfl rfl 14 (by decide) (hq _ q735) (fun _ h9 => h9) rfl hin rfl (by decide +kernel) rfl rfl (Nat.le_of_ble_eq_true rfl) rfl dX12_init_51 (fun H locs hP hD hS => ?_)
  refine lv_aload_n hx hb dX12_init_54 rfl (lv_at hl 0 rfl) ?_
  refine z_bipush hx hb dX12_init_55 (by decide) ?_
  refine z_newI (N' := 24) hx hb (hq _ q19) hK hP hD hS hA (by decide) (by decide) (by decide) (Nat.le_of_ble_eq_true rfl) (Nat.le_of_ble_eq_true rfl) dX12_init_57 (fun q6 H hP hD hS => ?_)
  have hP : va_P D vwCl [(h, .inr (11, [.ref q1, .ref q2, .ref q3, .int (iZ 0), .int (iZ 0), .ref q4, .int (iZ 0), .int (iZ 0), .int (iZ 0), .int (iZ 0), .int (iZ ((-1))), .int (iZ 0), .int (iZ 0), .int (iZ 0), .ref q5, .null, .null, .null, .null, .null, .null, .int (iZ 0), .null, .null, .null, .null])), (q1, zA (cA 0) 1551 (fun _ => 0)), (q2, zA (cA 0) 1551 (fun _ => 0)), (q3, zA (cA 0) 12408 (fun _ => 0)), (q4, zA (cA 1) 900 (fun _ => 0)), (q5, zA (cA 0) 384 (fun _ => 0)), (q6, zA (cA 0) 24 (fun _ => 0))] H := hP
  have hD : va_D A [(h, .inr (11, [.ref q1, .ref q2, .ref q3, .int (iZ 0), .int (iZ 0), .ref q4, .int (iZ 0), .int (iZ 0), .int (iZ 0), .int (iZ 0), .int (iZ ((-1))), .int (iZ 0), .int (iZ 0), .int (iZ 0), .ref q5, .null, .null, .null, .null, .null, .null, .int (iZ 0), .null, .null, .null, .null])), (q1, zA (cA 0) 1551 (fun _ => 0)), (q2, zA (cA 0) 1551 (fun _ => 0)), (q3, zA (cA 0) 12408 (fun _ => 0)), (q4, zA (cA 1) 900 (fun _ => 0)), (q5, zA (cA 0) 384 (fun _ => 0)), (q6, zA (cA 0) 24 (fun _ => 0))] := hD
  refine W.widen (k := 6) (n := 16818) (Nat.le_of_ble_eq_true rfl) (Nat.le_of_ble_eq_true rfl) ?_
  refine z_putF (ci := 11) (v := .ref q6) (ty := (.array .int)) (C := RX12) (T := TX12) (N := 26) (ws' := [(h, .inr (11, [.ref q1, .ref q2, .ref q3, .int (iZ 0), .int (iZ 0), .ref q4, .int (iZ 0), .int (iZ 0), .int (iZ 0), .int (iZ 0), .int (iZ ((-1))), .int (iZ 0), .int (iZ 0), .int (iZ 0), .ref q5, .ref q6, .null, .null, .null, .null, .null, .int (iZ 0), .null, .null, .null, .null])), (q1, zA (cA 0) 1551 (fun _ => 0)), (q2, zA (cA 0) 1551 (fun _ => 0)), (q3, zA (cA 0) 12408 (fun _ => 0)), (q4, zA (cA 1) 900 (fun _ => 0)), (q5, zA (cA 0) 384 (fun _ => 0)), (q6, zA (cA 0) 24 (fun _ => 0))]) hx hb hq in_wsX120 tyX12 tyX12_ok nmX12 hown hK hP hD hS 0 rfl rfl 15 (by decide) (hq _ q736) (fun _ h9 => h9) rfl hin rfl (by decide +kernel) rfl rfl (Nat.le_of_ble_eq_true rfl) rfl dX12_init_59 (fun H locs hP hD hS => ?_)
  refine lv_aload_n hx hb dX12_init_62 rfl (lv_at hl 0 rfl) ?_
  refine z_bipush hx hb dX12_init_63 (by decide) ?_
  refine z_newZ (N' := 24) hx hb (hq _ q340) hK hP hD hS hA (by decide) (by decide) (by decide) (Nat.le_of_ble_eq_true rfl) (Nat.le_of_ble_eq_true rfl) dX12_init_65 (fun q7 H hP hD hS => ?_)
  have hP : va_P D vwCl [(h, .inr (11, [.ref q1, .ref q2, .ref q3, .int (iZ 0), .int (iZ 0), .ref q4, .int (iZ 0), .int (iZ 0), .int (iZ 0), .int (iZ 0), .int (iZ ((-1))), .int (iZ 0), .int (iZ 0), .int (iZ 0), .ref q5, .ref q6, .null, .null, .null, .null, .null, .int (iZ 0), .null, .null, .null, .null])), (q1, zA (cA 0) 1551 (fun _ => 0)), (q2, zA (cA 0) 1551 (fun _ => 0)), (q3, zA (cA 0) 12408 (fun _ => 0)), (q4, zA (cA 1) 900 (fun _ => 0)), (q5, zA (cA 0) 384 (fun _ => 0)), (q6, zA (cA 0) 24 (fun _ => 0)), (q7, zA (cA 2) 24 (fun _ => 0))] H := hP
  have hD : va_D A [(h, .inr (11, [.ref q1, .ref q2, .ref q3, .int (iZ 0), .int (iZ 0), .ref q4, .int (iZ 0), .int (iZ 0), .int (iZ 0), .int (iZ 0), .int (iZ ((-1))), .int (iZ 0), .int (iZ 0), .int (iZ 0), .ref q5, .ref q6, .null, .null, .null, .null, .null, .int (iZ 0), .null, .null, .null, .null])), (q1, zA (cA 0) 1551 (fun _ => 0)), (q2, zA (cA 0) 1551 (fun _ => 0)), (q3, zA (cA 0) 12408 (fun _ => 0)), (q4, zA (cA 1) 900 (fun _ => 0)), (q5, zA (cA 0) 384 (fun _ => 0)), (q6, zA (cA 0) 24 (fun _ => 0)), (q7, zA (cA 2) 24 (fun _ => 0))] := hD
  refine W.widen (k := 7) (n := 16842) (Nat.le_of_ble_eq_true rfl) (Nat.le_of_ble_eq_true rfl) ?_
  refine z_putF (ci := 11) (v := .ref q7) (ty := (.array .boolean)) (C := RX12) (T := TX12) (N := 26) (ws' := [(h, .inr (11, [.ref q1, .ref q2, .ref q3, .int (iZ 0), .int (iZ 0), .ref q4, .int (iZ 0), .int (iZ 0), .int (iZ 0), .int (iZ 0), .int (iZ ((-1))), .int (iZ 0), .int (iZ 0), .int (iZ 0), .ref q5, .ref q6, .ref q7, .null, .null, .null, .null, .int (iZ 0), .null, .null, .null, .null])), (q1, zA (cA 0) 1551 (fun _ => 0)), (q2, zA (cA 0) 1551 (fun _ => 0)), (q3, zA (cA 0) 12408 (fun _ => 0)), (q4, zA (cA 1) 900 (fun _ => 0)), (q5, zA (cA 0) 384 (fun _ => 0)), (q6, zA (cA 0) 24 (fun _ => 0)), (q7, zA (cA 2) 24 (fun _ => 0))]) hx hb hq in_wsX120 tyX12 tyX12_ok nmX12 hown hK hP hD hS 0 rfl rfl 16 (by decide) (hq _ q737) (fun _ h9 => h9) rfl hin rfl (by decide +kernel) rfl rfl (Nat.le_of_ble_eq_true rfl) rfl dX12_init_67 (fun H locs hP hD hS => ?_)
  refine lv_aload_n hx hb dX12_init_70 rfl (lv_at hl 0 rfl) ?_
  refine z_bipush hx hb dX12_init_71 (by decide) ?_
  refine z_newI (N' := 16) hx hb (hq _ q19) hK hP hD hS hA (by decide) (by decide) (by decide) (Nat.le_of_ble_eq_true rfl) (Nat.le_of_ble_eq_true rfl) dX12_init_73 (fun q8 H hP hD hS => ?_)
  have hP : va_P D vwCl [(h, .inr (11, [.ref q1, .ref q2, .ref q3, .int (iZ 0), .int (iZ 0), .ref q4, .int (iZ 0), .int (iZ 0), .int (iZ 0), .int (iZ 0), .int (iZ ((-1))), .int (iZ 0), .int (iZ 0), .int (iZ 0), .ref q5, .ref q6, .ref q7, .null, .null, .null, .null, .int (iZ 0), .null, .null, .null, .null])), (q1, zA (cA 0) 1551 (fun _ => 0)), (q2, zA (cA 0) 1551 (fun _ => 0)), (q3, zA (cA 0) 12408 (fun _ => 0)), (q4, zA (cA 1) 900 (fun _ => 0)), (q5, zA (cA 0) 384 (fun _ => 0)), (q6, zA (cA 0) 24 (fun _ => 0)), (q7, zA (cA 2) 24 (fun _ => 0)), (q8, zA (cA 0) 16 (fun _ => 0))] H := hP
  have hD : va_D A [(h, .inr (11, [.ref q1, .ref q2, .ref q3, .int (iZ 0), .int (iZ 0), .ref q4, .int (iZ 0), .int (iZ 0), .int (iZ 0), .int (iZ 0), .int (iZ ((-1))), .int (iZ 0), .int (iZ 0), .int (iZ 0), .ref q5, .ref q6, .ref q7, .null, .null, .null, .null, .int (iZ 0), .null, .null, .null, .null])), (q1, zA (cA 0) 1551 (fun _ => 0)), (q2, zA (cA 0) 1551 (fun _ => 0)), (q3, zA (cA 0) 12408 (fun _ => 0)), (q4, zA (cA 1) 900 (fun _ => 0)), (q5, zA (cA 0) 384 (fun _ => 0)), (q6, zA (cA 0) 24 (fun _ => 0)), (q7, zA (cA 2) 24 (fun _ => 0)), (q8, zA (cA 0) 16 (fun _ => 0))] := hD
  refine W.widen (k := 8) (n := 16858) (Nat.le_of_ble_eq_true rfl) (Nat.le_of_ble_eq_true rfl) ?_
  refine z_putF (ci := 11) (v := .ref q8) (ty := (.array .int)) (C := RX12) (T := TX12) (N := 26) (ws' := [(h, .inr (11, [.ref q1, .ref q2, .ref q3, .int (iZ 0), .int (iZ 0), .ref q4, .int (iZ 0), .int (iZ 0), .int (iZ 0), .int (iZ 0), .int (iZ ((-1))), .int (iZ 0), .int (iZ 0), .int (iZ 0), .ref q5, .ref q6, .ref q7, .ref q8, .null, .null, .null, .int (iZ 0), .null, .null, .null, .null])), (q1, zA (cA 0) 1551 (fun _ => 0)), (q2, zA (cA 0) 1551 (fun _ => 0)), (q3, zA (cA 0) 12408 (fun _ => 0)), (q4, zA (cA 1) 900 (fun _ => 0)), (q5, zA (cA 0) 384 (fun _ => 0)), (q6, zA (cA 0) 24 (fun _ => 0)), (q7, zA (cA 2) 24 (fun _ => 0)), (q8, zA (cA 0) 16 (fun _ => 0))]) hx hb hq in_wsX120 tyX12 tyX12_ok nmX12 hown hK hP hD hS 0 rfl rfl 17 (by decide) (hq _ q738) (fun _ h9 => h9) rfl hin rfl (by decide +kernel) rfl rfl (Nat.le_of_ble_eq_true rfl) rfl dX12_init_75 (fun H locs hP hD hS => ?_)
  refine lv_aload_n hx hb dX12_init_78 rfl (lv_at hl 0 rfl) ?_
  refine z_bipush hx hb dX12_init_79 (by decide) ?_
  refine z_newI (N' := 16) hx hb (hq _ q19) hK hP hD hS hA (by decide) (by decide) (by decide) (Nat.le_of_ble_eq_true rfl) (Nat.le_of_ble_eq_true rfl) dX12_init_81 (fun q9 H hP hD hS => ?_)
  have hP : va_P D vwCl [(h, .inr (11, [.ref q1, .ref q2, .ref q3, .int (iZ 0), .int (iZ 0), .ref q4, .int (iZ 0), .int (iZ 0), .int (iZ 0), .int (iZ 0), .int (iZ ((-1))), .int (iZ 0), .int (iZ 0), .int (iZ 0), .ref q5, .ref q6, .ref q7, .ref q8, .null, .null, .null, .int (iZ 0), .null, .null, .null, .null])), (q1, zA (cA 0) 1551 (fun _ => 0)), (q2, zA (cA 0) 1551 (fun _ => 0)), (q3, zA (cA 0) 12408 (fun _ => 0)), (q4, zA (cA 1) 900 (fun _ => 0)), (q5, zA (cA 0) 384 (fun _ => 0)), (q6, zA (cA 0) 24 (fun _ => 0)), (q7, zA (cA 2) 24 (fun _ => 0)), (q8, zA (cA 0) 16 (fun _ => 0)), (q9, zA (cA 0) 16 (fun _ => 0))] H := hP
  have hD : va_D A [(h, .inr (11, [.ref q1, .ref q2, .ref q3, .int (iZ 0), .int (iZ 0), .ref q4, .int (iZ 0), .int (iZ 0), .int (iZ 0), .int (iZ 0), .int (iZ ((-1))), .int (iZ 0), .int (iZ 0), .int (iZ 0), .ref q5, .ref q6, .ref q7, .ref q8, .null, .null, .null, .int (iZ 0), .null, .null, .null, .null])), (q1, zA (cA 0) 1551 (fun _ => 0)), (q2, zA (cA 0) 1551 (fun _ => 0)), (q3, zA (cA 0) 12408 (fun _ => 0)), (q4, zA (cA 1) 900 (fun _ => 0)), (q5, zA (cA 0) 384 (fun _ => 0)), (q6, zA (cA 0) 24 (fun _ => 0)), (q7, zA (cA 2) 24 (fun _ => 0)), (q8, zA (cA 0) 16 (fun _ => 0)), (q9, zA (cA 0) 16 (fun _ => 0))] := hD
  refine W.widen (k := 9) (n := 16874) (Nat.le_of_ble_eq_true rfl) (Nat.le_of_ble_eq_true rfl) ?_
  refine z_putF (ci := 11) (v := .ref q9) (ty := (.array .int)) (C := RX12) (T := TX12) (N := 26) (ws' := [(h, .inr (11, [.ref q1, .ref q2, .ref q3, .int (iZ 0), .int (iZ 0), .ref q4, .int (iZ 0), .int (iZ 0), .int (iZ 0), .int (iZ 0), .int (iZ ((-1))), .int (iZ 0), .int (iZ 0), .int (iZ 0), .ref q5, .ref q6, .ref q7, .ref q8, .ref q9, .null, .null, .int (iZ 0), .null, .null, .null, .null])), (q1, zA (cA 0) 1551 (fun _ => 0)), (q2, zA (cA 0) 1551 (fun _ => 0)), (q3, zA (cA 0) 12408 (fun _ => 0)), (q4, zA (cA 1) 900 (fun _ => 0)), (q5, zA (cA 0) 384 (fun _ => 0)), (q6, zA (cA 0) 24 (fun _ => 0)), (q7, zA (cA 2) 24 (fun _ => 0)), (q8, zA (cA 0) 16 (fun _ => 0)), (q9, zA (cA 0) 16 (fun _ => 0))]) hx hb hq in_wsX120 tyX12 tyX12_ok nmX12 hown hK hP hD hS 0 rfl rfl 18 (by decide) (hq _ q739) (fun _ h9 => h9) rfl hin rfl (by decide +kernel) rfl rfl (Nat.le_of_ble_eq_true rfl) rfl dX12_init_83 (fun H locs hP hD hS => ?_)
  refine lv_aload_n hx hb dX12_init_86 rfl (lv_at hl 0 rfl) ?_
  refine z_sipush hx hb dX12_init_87 (by decide) ?_
  refine z_newI (N' := 1536) hx hb (hq _ q19) hK hP hD hS hA (by decide) (by decide) (by decide) (Nat.le_of_ble_eq_true rfl) (Nat.le_of_ble_eq_true rfl) dX12_init_90 (fun q10 H hP hD hS => ?_)
  have hP : va_P D vwCl [(h, .inr (11, [.ref q1, .ref q2, .ref q3, .int (iZ 0), .int (iZ 0), .ref q4, .int (iZ 0), .int (iZ 0), .int (iZ 0), .int (iZ 0), .int (iZ ((-1))), .int (iZ 0), .int (iZ 0), .int (iZ 0), .ref q5, .ref q6, .ref q7, .ref q8, .ref q9, .null, .null, .int (iZ 0), .null, .null, .null, .null])), (q1, zA (cA 0) 1551 (fun _ => 0)), (q2, zA (cA 0) 1551 (fun _ => 0)), (q3, zA (cA 0) 12408 (fun _ => 0)), (q4, zA (cA 1) 900 (fun _ => 0)), (q5, zA (cA 0) 384 (fun _ => 0)), (q6, zA (cA 0) 24 (fun _ => 0)), (q7, zA (cA 2) 24 (fun _ => 0)), (q8, zA (cA 0) 16 (fun _ => 0)), (q9, zA (cA 0) 16 (fun _ => 0)), (q10, zA (cA 0) 1536 (fun _ => 0))] H := hP
  have hD : va_D A [(h, .inr (11, [.ref q1, .ref q2, .ref q3, .int (iZ 0), .int (iZ 0), .ref q4, .int (iZ 0), .int (iZ 0), .int (iZ 0), .int (iZ 0), .int (iZ ((-1))), .int (iZ 0), .int (iZ 0), .int (iZ 0), .ref q5, .ref q6, .ref q7, .ref q8, .ref q9, .null, .null, .int (iZ 0), .null, .null, .null, .null])), (q1, zA (cA 0) 1551 (fun _ => 0)), (q2, zA (cA 0) 1551 (fun _ => 0)), (q3, zA (cA 0) 12408 (fun _ => 0)), (q4, zA (cA 1) 900 (fun _ => 0)), (q5, zA (cA 0) 384 (fun _ => 0)), (q6, zA (cA 0) 24 (fun _ => 0)), (q7, zA (cA 2) 24 (fun _ => 0)), (q8, zA (cA 0) 16 (fun _ => 0)), (q9, zA (cA 0) 16 (fun _ => 0)), (q10, zA (cA 0) 1536 (fun _ => 0))] := hD
  refine W.widen (k := 10) (n := 18410) (Nat.le_of_ble_eq_true rfl) (Nat.le_of_ble_eq_true rfl) ?_
  refine z_putF (ci := 11) (v := .ref q10) (ty := (.array .int)) (C := RX12) (T := TX12) (N := 26) (ws' := [(h, .inr (11, [.ref q1, .ref q2, .ref q3, .int (iZ 0), .int (iZ 0), .ref q4, .int (iZ 0), .int (iZ 0), .int (iZ 0), .int (iZ 0), .int (iZ ((-1))), .int (iZ 0), .int (iZ 0), .int (iZ 0), .ref q5, .ref q6, .ref q7, .ref q8, .ref q9, .ref q10, .null, .int (iZ 0), .null, .null, .null, .null])), (q1, zA (cA 0) 1551 (fun _ => 0)), (q2, zA (cA 0) 1551 (fun _ => 0)), (q3, zA (cA 0) 12408 (fun _ => 0)), (q4, zA (cA 1) 900 (fun _ => 0)), (q5, zA (cA 0) 384 (fun _ => 0)), (q6, zA (cA 0) 24 (fun _ => 0)), (q7, zA (cA 2) 24 (fun _ => 0)), (q8, zA (cA 0) 16 (fun _ => 0)), (q9, zA (cA 0) 16 (fun _ => 0)), (q10, zA (cA 0) 1536 (fun _ => 0))]) hx hb hq in_wsX120 tyX12 tyX12_ok nmX12 hown hK hP hD hS 0 rfl rfl 19 (by decide) (hq _ q740) (fun _ h9 => h9) rfl hin rfl (by decide +kernel) rfl rfl (Nat.le_of_ble_eq_true rfl) rfl dX12_init_92 (fun H locs hP hD hS => ?_)
  refine lv_aload_n hx hb dX12_init_95 rfl (lv_at hl 0 rfl) ?_
  refine z_sipush hx hb dX12_init_96 (by decide) ?_
  refine z_newI (N' := 384) hx hb (hq _ q19) hK hP hD hS hA (by decide) (by decide) (by decide) (Nat.le_of_ble_eq_true rfl) (Nat.le_of_ble_eq_true rfl) dX12_init_99 (fun q11 H hP hD hS => ?_)
  have hP : va_P D vwCl [(h, .inr (11, [.ref q1, .ref q2, .ref q3, .int (iZ 0), .int (iZ 0), .ref q4, .int (iZ 0), .int (iZ 0), .int (iZ 0), .int (iZ 0), .int (iZ ((-1))), .int (iZ 0), .int (iZ 0), .int (iZ 0), .ref q5, .ref q6, .ref q7, .ref q8, .ref q9, .ref q10, .null, .int (iZ 0), .null, .null, .null, .null])), (q1, zA (cA 0) 1551 (fun _ => 0)), (q2, zA (cA 0) 1551 (fun _ => 0)), (q3, zA (cA 0) 12408 (fun _ => 0)), (q4, zA (cA 1) 900 (fun _ => 0)), (q5, zA (cA 0) 384 (fun _ => 0)), (q6, zA (cA 0) 24 (fun _ => 0)), (q7, zA (cA 2) 24 (fun _ => 0)), (q8, zA (cA 0) 16 (fun _ => 0)), (q9, zA (cA 0) 16 (fun _ => 0)), (q10, zA (cA 0) 1536 (fun _ => 0)), (q11, zA (cA 0) 384 (fun _ => 0))] H := hP
  have hD : va_D A [(h, .inr (11, [.ref q1, .ref q2, .ref q3, .int (iZ 0), .int (iZ 0), .ref q4, .int (iZ 0), .int (iZ 0), .int (iZ 0), .int (iZ 0), .int (iZ ((-1))), .int (iZ 0), .int (iZ 0), .int (iZ 0), .ref q5, .ref q6, .ref q7, .ref q8, .ref q9, .ref q10, .null, .int (iZ 0), .null, .null, .null, .null])), (q1, zA (cA 0) 1551 (fun _ => 0)), (q2, zA (cA 0) 1551 (fun _ => 0)), (q3, zA (cA 0) 12408 (fun _ => 0)), (q4, zA (cA 1) 900 (fun _ => 0)), (q5, zA (cA 0) 384 (fun _ => 0)), (q6, zA (cA 0) 24 (fun _ => 0)), (q7, zA (cA 2) 24 (fun _ => 0)), (q8, zA (cA 0) 16 (fun _ => 0)), (q9, zA (cA 0) 16 (fun _ => 0)), (q10, zA (cA 0) 1536 (fun _ => 0)), (q11, zA (cA 0) 384 (fun _ => 0))] := hD
  refine W.widen (k := 11) (n := 18794) (Nat.le_of_ble_eq_true rfl) (Nat.le_of_ble_eq_true rfl) ?_
  refine z_putF (ci := 11) (v := .ref q11) (ty := (.array .int)) (C := RX12) (T := TX12) (N := 26) (ws' := [(h, .inr (11, [.ref q1, .ref q2, .ref q3, .int (iZ 0), .int (iZ 0), .ref q4, .int (iZ 0), .int (iZ 0), .int (iZ 0), .int (iZ 0), .int (iZ ((-1))), .int (iZ 0), .int (iZ 0), .int (iZ 0), .ref q5, .ref q6, .ref q7, .ref q8, .ref q9, .ref q10, .ref q11, .int (iZ 0), .null, .null, .null, .null])), (q1, zA (cA 0) 1551 (fun _ => 0)), (q2, zA (cA 0) 1551 (fun _ => 0)), (q3, zA (cA 0) 12408 (fun _ => 0)), (q4, zA (cA 1) 900 (fun _ => 0)), (q5, zA (cA 0) 384 (fun _ => 0)), (q6, zA (cA 0) 24 (fun _ => 0)), (q7, zA (cA 2) 24 (fun _ => 0)), (q8, zA (cA 0) 16 (fun _ => 0)), (q9, zA (cA 0) 16 (fun _ => 0)), (q10, zA (cA 0) 1536 (fun _ => 0)), (q11, zA (cA 0) 384 (fun _ => 0))]) hx hb hq in_wsX120 tyX12 tyX12_ok nmX12 hown hK hP hD hS 0 rfl rfl 20 (by decide) (hq _ q741) (fun _ h9 => h9) rfl hin rfl (by decide +kernel) rfl rfl (Nat.le_of_ble_eq_true rfl) rfl dX12_init_101 (fun H locs hP hD hS => ?_)
  refine lv_aload_n hx hb dX12_init_104 rfl (lv_at hl 0 rfl) ?_
  refine z_bipush hx hb dX12_init_105 (by decide) ?_
  refine z_newI (N' := 64) hx hb (hq _ q19) hK hP hD hS hA (by decide) (by decide) (by decide) (Nat.le_of_ble_eq_true rfl) (Nat.le_of_ble_eq_true rfl) dX12_init_107 (fun q12 H hP hD hS => ?_)
  have hP : va_P D vwCl [(h, .inr (11, [.ref q1, .ref q2, .ref q3, .int (iZ 0), .int (iZ 0), .ref q4, .int (iZ 0), .int (iZ 0), .int (iZ 0), .int (iZ 0), .int (iZ ((-1))), .int (iZ 0), .int (iZ 0), .int (iZ 0), .ref q5, .ref q6, .ref q7, .ref q8, .ref q9, .ref q10, .ref q11, .int (iZ 0), .null, .null, .null, .null])), (q1, zA (cA 0) 1551 (fun _ => 0)), (q2, zA (cA 0) 1551 (fun _ => 0)), (q3, zA (cA 0) 12408 (fun _ => 0)), (q4, zA (cA 1) 900 (fun _ => 0)), (q5, zA (cA 0) 384 (fun _ => 0)), (q6, zA (cA 0) 24 (fun _ => 0)), (q7, zA (cA 2) 24 (fun _ => 0)), (q8, zA (cA 0) 16 (fun _ => 0)), (q9, zA (cA 0) 16 (fun _ => 0)), (q10, zA (cA 0) 1536 (fun _ => 0)), (q11, zA (cA 0) 384 (fun _ => 0)), (q12, zA (cA 0) 64 (fun _ => 0))] H := hP
  have hD : va_D A [(h, .inr (11, [.ref q1, .ref q2, .ref q3, .int (iZ 0), .int (iZ 0), .ref q4, .int (iZ 0), .int (iZ 0), .int (iZ 0), .int (iZ 0), .int (iZ ((-1))), .int (iZ 0), .int (iZ 0), .int (iZ 0), .ref q5, .ref q6, .ref q7, .ref q8, .ref q9, .ref q10, .ref q11, .int (iZ 0), .null, .null, .null, .null])), (q1, zA (cA 0) 1551 (fun _ => 0)), (q2, zA (cA 0) 1551 (fun _ => 0)), (q3, zA (cA 0) 12408 (fun _ => 0)), (q4, zA (cA 1) 900 (fun _ => 0)), (q5, zA (cA 0) 384 (fun _ => 0)), (q6, zA (cA 0) 24 (fun _ => 0)), (q7, zA (cA 2) 24 (fun _ => 0)), (q8, zA (cA 0) 16 (fun _ => 0)), (q9, zA (cA 0) 16 (fun _ => 0)), (q10, zA (cA 0) 1536 (fun _ => 0)), (q11, zA (cA 0) 384 (fun _ => 0)), (q12, zA (cA 0) 64 (fun _ => 0))] := hD
  refine W.widen (k := 12) (n := 18858) (Nat.le_of_ble_eq_true rfl) (Nat.le_of_ble_eq_true rfl) ?_
  refine z_putF (ci := 11) (v := .ref q12) (ty := (.array .int)) (C := RX12) (T := TX12) (N := 26) (ws' := [(h, .inr (11, [.ref q1, .ref q2, .ref q3, .int (iZ 0), .int (iZ 0), .ref q4, .int (iZ 0), .int (iZ 0), .int (iZ 0), .int (iZ 0), .int (iZ ((-1))), .int (iZ 0), .int (iZ 0), .int (iZ 0), .ref q5, .ref q6, .ref q7, .ref q8, .ref q9, .ref q10, .ref q11, .int (iZ 0), .ref q12, .null, .null, .null])), (q1, zA (cA 0) 1551 (fun _ => 0)), (q2, zA (cA 0) 1551 (fun _ => 0)), (q3, zA (cA 0) 12408 (fun _ => 0)), (q4, zA (cA 1) 900 (fun _ => 0)), (q5, zA (cA 0) 384 (fun _ => 0)), (q6, zA (cA 0) 24 (fun _ => 0)), (q7, zA (cA 2) 24 (fun _ => 0)), (q8, zA (cA 0) 16 (fun _ => 0)), (q9, zA (cA 0) 16 (fun _ => 0)), (q10, zA (cA 0) 1536 (fun _ => 0)), (q11, zA (cA 0) 384 (fun _ => 0)), (q12, zA (cA 0) 64 (fun _ => 0))]) hx hb hq in_wsX120 tyX12 tyX12_ok nmX12 hown hK hP hD hS 0 rfl rfl 22 (by decide) (hq _ q742) (fun _ h9 => h9) rfl hin rfl (by decide +kernel) rfl rfl (Nat.le_of_ble_eq_true rfl) rfl dX12_init_109 (fun H locs hP hD hS => ?_)
  refine lv_aload_n hx hb dX12_init_112 rfl (lv_at hl 0 rfl) ?_
  refine z_sipush hx hb dX12_init_113 (by decide) ?_
  refine z_newI (N' := 576) hx hb (hq _ q19) hK hP hD hS hA (by decide) (by decide) (by decide) (Nat.le_of_ble_eq_true rfl) (Nat.le_of_ble_eq_true rfl) dX12_init_116 (fun q13 H hP hD hS => ?_)
  have hP : va_P D vwCl [(h, .inr (11, [.ref q1, .ref q2, .ref q3, .int (iZ 0), .int (iZ 0), .ref q4, .int (iZ 0), .int (iZ 0), .int (iZ 0), .int (iZ 0), .int (iZ ((-1))), .int (iZ 0), .int (iZ 0), .int (iZ 0), .ref q5, .ref q6, .ref q7, .ref q8, .ref q9, .ref q10, .ref q11, .int (iZ 0), .ref q12, .null, .null, .null])), (q1, zA (cA 0) 1551 (fun _ => 0)), (q2, zA (cA 0) 1551 (fun _ => 0)), (q3, zA (cA 0) 12408 (fun _ => 0)), (q4, zA (cA 1) 900 (fun _ => 0)), (q5, zA (cA 0) 384 (fun _ => 0)), (q6, zA (cA 0) 24 (fun _ => 0)), (q7, zA (cA 2) 24 (fun _ => 0)), (q8, zA (cA 0) 16 (fun _ => 0)), (q9, zA (cA 0) 16 (fun _ => 0)), (q10, zA (cA 0) 1536 (fun _ => 0)), (q11, zA (cA 0) 384 (fun _ => 0)), (q12, zA (cA 0) 64 (fun _ => 0)), (q13, zA (cA 0) 576 (fun _ => 0))] H := hP
  have hD : va_D A [(h, .inr (11, [.ref q1, .ref q2, .ref q3, .int (iZ 0), .int (iZ 0), .ref q4, .int (iZ 0), .int (iZ 0), .int (iZ 0), .int (iZ 0), .int (iZ ((-1))), .int (iZ 0), .int (iZ 0), .int (iZ 0), .ref q5, .ref q6, .ref q7, .ref q8, .ref q9, .ref q10, .ref q11, .int (iZ 0), .ref q12, .null, .null, .null])), (q1, zA (cA 0) 1551 (fun _ => 0)), (q2, zA (cA 0) 1551 (fun _ => 0)), (q3, zA (cA 0) 12408 (fun _ => 0)), (q4, zA (cA 1) 900 (fun _ => 0)), (q5, zA (cA 0) 384 (fun _ => 0)), (q6, zA (cA 0) 24 (fun _ => 0)), (q7, zA (cA 2) 24 (fun _ => 0)), (q8, zA (cA 0) 16 (fun _ => 0)), (q9, zA (cA 0) 16 (fun _ => 0)), (q10, zA (cA 0) 1536 (fun _ => 0)), (q11, zA (cA 0) 384 (fun _ => 0)), (q12, zA (cA 0) 64 (fun _ => 0)), (q13, zA (cA 0) 576 (fun _ => 0))] := hD
  refine W.widen (k := 13) (n := 19434) (Nat.le_of_ble_eq_true rfl) (Nat.le_of_ble_eq_true rfl) ?_
  refine z_putF (ci := 11) (v := .ref q13) (ty := (.array .int)) (C := RX12) (T := TX12) (N := 26) (ws' := [(h, .inr (11, [.ref q1, .ref q2, .ref q3, .int (iZ 0), .int (iZ 0), .ref q4, .int (iZ 0), .int (iZ 0), .int (iZ 0), .int (iZ 0), .int (iZ ((-1))), .int (iZ 0), .int (iZ 0), .int (iZ 0), .ref q5, .ref q6, .ref q7, .ref q8, .ref q9, .ref q10, .ref q11, .int (iZ 0), .ref q12, .ref q13, .null, .null])), (q1, zA (cA 0) 1551 (fun _ => 0)), (q2, zA (cA 0) 1551 (fun _ => 0)), (q3, zA (cA 0) 12408 (fun _ => 0)), (q4, zA (cA 1) 900 (fun _ => 0)), (q5, zA (cA 0) 384 (fun _ => 0)), (q6, zA (cA 0) 24 (fun _ => 0)), (q7, zA (cA 2) 24 (fun _ => 0)), (q8, zA (cA 0) 16 (fun _ => 0)), (q9, zA (cA 0) 16 (fun _ => 0)), (q10, zA (cA 0) 1536 (fun _ => 0)), (q11, zA (cA 0) 384 (fun _ => 0)), (q12, zA (cA 0) 64 (fun _ => 0)), (q13, zA (cA 0) 576 (fun _ => 0))]) hx hb hq in_wsX120 tyX12 tyX12_ok nmX12 hown hK hP hD hS 0 rfl rfl 23 (by decide) (hq _ q743) (fun _ h9 => h9) rfl hin rfl (by decide +kernel) rfl rfl (Nat.le_of_ble_eq_true rfl) rfl dX12_init_118 (fun H locs hP hD hS => ?_)
  refine lv_aload_n hx hb dX12_init_121 rfl (lv_at hl 0 rfl) ?_
  refine z_sipush hx hb dX12_init_122 (by decide) ?_
  refine z_newI (N' := 225) hx hb (hq _ q19) hK hP hD hS hA (by decide) (by decide) (by decide) (Nat.le_of_ble_eq_true rfl) (Nat.le_of_ble_eq_true rfl) dX12_init_125 (fun q14 H hP hD hS => ?_)
  have hP : va_P D vwCl [(h, .inr (11, [.ref q1, .ref q2, .ref q3, .int (iZ 0), .int (iZ 0), .ref q4, .int (iZ 0), .int (iZ 0), .int (iZ 0), .int (iZ 0), .int (iZ ((-1))), .int (iZ 0), .int (iZ 0), .int (iZ 0), .ref q5, .ref q6, .ref q7, .ref q8, .ref q9, .ref q10, .ref q11, .int (iZ 0), .ref q12, .ref q13, .null, .null])), (q1, zA (cA 0) 1551 (fun _ => 0)), (q2, zA (cA 0) 1551 (fun _ => 0)), (q3, zA (cA 0) 12408 (fun _ => 0)), (q4, zA (cA 1) 900 (fun _ => 0)), (q5, zA (cA 0) 384 (fun _ => 0)), (q6, zA (cA 0) 24 (fun _ => 0)), (q7, zA (cA 2) 24 (fun _ => 0)), (q8, zA (cA 0) 16 (fun _ => 0)), (q9, zA (cA 0) 16 (fun _ => 0)), (q10, zA (cA 0) 1536 (fun _ => 0)), (q11, zA (cA 0) 384 (fun _ => 0)), (q12, zA (cA 0) 64 (fun _ => 0)), (q13, zA (cA 0) 576 (fun _ => 0)), (q14, zA (cA 0) 225 (fun _ => 0))] H := hP
  have hD : va_D A [(h, .inr (11, [.ref q1, .ref q2, .ref q3, .int (iZ 0), .int (iZ 0), .ref q4, .int (iZ 0), .int (iZ 0), .int (iZ 0), .int (iZ 0), .int (iZ ((-1))), .int (iZ 0), .int (iZ 0), .int (iZ 0), .ref q5, .ref q6, .ref q7, .ref q8, .ref q9, .ref q10, .ref q11, .int (iZ 0), .ref q12, .ref q13, .null, .null])), (q1, zA (cA 0) 1551 (fun _ => 0)), (q2, zA (cA 0) 1551 (fun _ => 0)), (q3, zA (cA 0) 12408 (fun _ => 0)), (q4, zA (cA 1) 900 (fun _ => 0)), (q5, zA (cA 0) 384 (fun _ => 0)), (q6, zA (cA 0) 24 (fun _ => 0)), (q7, zA (cA 2) 24 (fun _ => 0)), (q8, zA (cA 0) 16 (fun _ => 0)), (q9, zA (cA 0) 16 (fun _ => 0)), (q10, zA (cA 0) 1536 (fun _ => 0)), (q11, zA (cA 0) 384 (fun _ => 0)), (q12, zA (cA 0) 64 (fun _ => 0)), (q13, zA (cA 0) 576 (fun _ => 0)), (q14, zA (cA 0) 225 (fun _ => 0))] := hD
  refine W.widen (k := 14) (n := 19659) (Nat.le_of_ble_eq_true rfl) (Nat.le_of_ble_eq_true rfl) ?_
  refine z_putF (ci := 11) (v := .ref q14) (ty := (.array .int)) (C := RX12) (T := TX12) (N := 26) (ws' := [(h, .inr (11, [.ref q1, .ref q2, .ref q3, .int (iZ 0), .int (iZ 0), .ref q4, .int (iZ 0), .int (iZ 0), .int (iZ 0), .int (iZ 0), .int (iZ ((-1))), .int (iZ 0), .int (iZ 0), .int (iZ 0), .ref q5, .ref q6, .ref q7, .ref q8, .ref q9, .ref q10, .ref q11, .int (iZ 0), .ref q12, .ref q13, .ref q14, .null])), (q1, zA (cA 0) 1551 (fun _ => 0)), (q2, zA (cA 0) 1551 (fun _ => 0)), (q3, zA (cA 0) 12408 (fun _ => 0)), (q4, zA (cA 1) 900 (fun _ => 0)), (q5, zA (cA 0) 384 (fun _ => 0)), (q6, zA (cA 0) 24 (fun _ => 0)), (q7, zA (cA 2) 24 (fun _ => 0)), (q8, zA (cA 0) 16 (fun _ => 0)), (q9, zA (cA 0) 16 (fun _ => 0)), (q10, zA (cA 0) 1536 (fun _ => 0)), (q11, zA (cA 0) 384 (fun _ => 0)), (q12, zA (cA 0) 64 (fun _ => 0)), (q13, zA (cA 0) 576 (fun _ => 0)), (q14, zA (cA 0) 225 (fun _ => 0))]) hx hb hq in_wsX120 tyX12 tyX12_ok nmX12 hown hK hP hD hS 0 rfl rfl 24 (by decide) (hq _ q744) (fun _ h9 => h9) rfl hin rfl (by decide +kernel) rfl rfl (Nat.le_of_ble_eq_true rfl) rfl dX12_init_127 (fun H locs hP hD hS => ?_)
  refine lv_aload_n hx hb dX12_init_130 rfl (lv_at hl 0 rfl) ?_
  refine z_sipush hx hb dX12_init_131 (by decide) ?_
  refine z_newI (N' := 272) hx hb (hq _ q19) hK hP hD hS hA (by decide) (by decide) (by decide) (Nat.le_of_ble_eq_true rfl) (Nat.le_of_ble_eq_true rfl) dX12_init_134 (fun q15 H hP hD hS => ?_)
  have hP : va_P D vwCl [(h, .inr (11, [.ref q1, .ref q2, .ref q3, .int (iZ 0), .int (iZ 0), .ref q4, .int (iZ 0), .int (iZ 0), .int (iZ 0), .int (iZ 0), .int (iZ ((-1))), .int (iZ 0), .int (iZ 0), .int (iZ 0), .ref q5, .ref q6, .ref q7, .ref q8, .ref q9, .ref q10, .ref q11, .int (iZ 0), .ref q12, .ref q13, .ref q14, .null])), (q1, zA (cA 0) 1551 (fun _ => 0)), (q2, zA (cA 0) 1551 (fun _ => 0)), (q3, zA (cA 0) 12408 (fun _ => 0)), (q4, zA (cA 1) 900 (fun _ => 0)), (q5, zA (cA 0) 384 (fun _ => 0)), (q6, zA (cA 0) 24 (fun _ => 0)), (q7, zA (cA 2) 24 (fun _ => 0)), (q8, zA (cA 0) 16 (fun _ => 0)), (q9, zA (cA 0) 16 (fun _ => 0)), (q10, zA (cA 0) 1536 (fun _ => 0)), (q11, zA (cA 0) 384 (fun _ => 0)), (q12, zA (cA 0) 64 (fun _ => 0)), (q13, zA (cA 0) 576 (fun _ => 0)), (q14, zA (cA 0) 225 (fun _ => 0)), (q15, zA (cA 0) 272 (fun _ => 0))] H := hP
  have hD : va_D A [(h, .inr (11, [.ref q1, .ref q2, .ref q3, .int (iZ 0), .int (iZ 0), .ref q4, .int (iZ 0), .int (iZ 0), .int (iZ 0), .int (iZ 0), .int (iZ ((-1))), .int (iZ 0), .int (iZ 0), .int (iZ 0), .ref q5, .ref q6, .ref q7, .ref q8, .ref q9, .ref q10, .ref q11, .int (iZ 0), .ref q12, .ref q13, .ref q14, .null])), (q1, zA (cA 0) 1551 (fun _ => 0)), (q2, zA (cA 0) 1551 (fun _ => 0)), (q3, zA (cA 0) 12408 (fun _ => 0)), (q4, zA (cA 1) 900 (fun _ => 0)), (q5, zA (cA 0) 384 (fun _ => 0)), (q6, zA (cA 0) 24 (fun _ => 0)), (q7, zA (cA 2) 24 (fun _ => 0)), (q8, zA (cA 0) 16 (fun _ => 0)), (q9, zA (cA 0) 16 (fun _ => 0)), (q10, zA (cA 0) 1536 (fun _ => 0)), (q11, zA (cA 0) 384 (fun _ => 0)), (q12, zA (cA 0) 64 (fun _ => 0)), (q13, zA (cA 0) 576 (fun _ => 0)), (q14, zA (cA 0) 225 (fun _ => 0)), (q15, zA (cA 0) 272 (fun _ => 0))] := hD
  refine W.widen (k := 15) (n := 19931) (Nat.le_of_ble_eq_true rfl) (Nat.le_of_ble_eq_true rfl) ?_
  refine z_putF (ci := 11) (v := .ref q15) (ty := (.array .int)) (C := RX12) (T := TX12) (N := 26) (ws' := [(h, .inr (11, [.ref q1, .ref q2, .ref q3, .int (iZ 0), .int (iZ 0), .ref q4, .int (iZ 0), .int (iZ 0), .int (iZ 0), .int (iZ 0), .int (iZ ((-1))), .int (iZ 0), .int (iZ 0), .int (iZ 0), .ref q5, .ref q6, .ref q7, .ref q8, .ref q9, .ref q10, .ref q11, .int (iZ 0), .ref q12, .ref q13, .ref q14, .ref q15])), (q1, zA (cA 0) 1551 (fun _ => 0)), (q2, zA (cA 0) 1551 (fun _ => 0)), (q3, zA (cA 0) 12408 (fun _ => 0)), (q4, zA (cA 1) 900 (fun _ => 0)), (q5, zA (cA 0) 384 (fun _ => 0)), (q6, zA (cA 0) 24 (fun _ => 0)), (q7, zA (cA 2) 24 (fun _ => 0)), (q8, zA (cA 0) 16 (fun _ => 0)), (q9, zA (cA 0) 16 (fun _ => 0)), (q10, zA (cA 0) 1536 (fun _ => 0)), (q11, zA (cA 0) 384 (fun _ => 0)), (q12, zA (cA 0) 64 (fun _ => 0)), (q13, zA (cA 0) 576 (fun _ => 0)), (q14, zA (cA 0) 225 (fun _ => 0)), (q15, zA (cA 0) 272 (fun _ => 0))]) hx hb hq in_wsX120 tyX12 tyX12_ok nmX12 hown hK hP hD hS 0 rfl rfl 25 (by decide) (hq _ q745) (fun _ h9 => h9) rfl hin rfl (by decide +kernel) rfl rfl (Nat.le_of_ble_eq_true rfl) rfl dX12_init_136 (fun H locs hP hD hS => ?_)
  refine lv_aload_n hx hb dX12_init_139 rfl (lv_at hl 0 rfl) ?_
  refine z_callVv (G := G) (D := D) (cA := cA) (wc := (wX12_plain cA h q1 q2 q3 q4 q5 q6 q7 q8 q9 q10 q11 q12 q13 q14 q15 0 0 0 0 0 0 (((-1))) 0 0 0 0 (fun _ => 0))) (wr := [(q2, zA (cA 0) 1551 (fun _ => 0)), (q3, zA (cA 0) 12408 (fun _ => 0)), (q4, zA (cA 1) 900 (fun _ => 0)), (q5, zA (cA 0) 384 (fun _ => 0)), (q6, zA (cA 0) 24 (fun _ => 0)), (q7, zA (cA 2) 24 (fun _ => 0)), (q8, zA (cA 0) 16 (fun _ => 0)), (q9, zA (cA 0) 16 (fun _ => 0)), (q10, zA (cA 0) 1536 (fun _ => 0)), (q11, zA (cA 0) 384 (fun _ => 0)), (q12, zA (cA 0) 64 (fun _ => 0)), (q13, zA (cA 0) 576 (fun _ => 0)), (q14, zA (cA 0) 225 (fun _ => 0)), (q15, zA (cA 0) 272 (fun _ => 0))]) (w1 := (wX12_plain cA h q1 q2 q3 q4 q5 q6 q7 q8 q9 q10 q11 q12 q13 q14 q15 0 0 0 0 0 0 ((((-1)))) 0 0 0 0 rp)) (ws' := [(h, .inr (11, [.ref q1, .ref q2, .ref q3, .int (iZ 0), .int (iZ 0), .ref q4, .int (iZ 0), .int (iZ 0), .int (iZ 0), .int (iZ 0), .int (iZ ((-1))), .int (iZ 0), .int (iZ 0), .int (iZ 0), .ref q5, .ref q6, .ref q7, .ref q8, .ref q9, .ref q10, .ref q11, .int (iZ 0), .ref q12, .ref q13, .ref q14, .ref q15])), (q1, zA (cA 0) 1551 rp), (q2, zA (cA 0) 1551 (fun _ => 0)), (q3, zA (cA 0) 12408 (fun _ => 0)), (q4, zA (cA 1) 900 (fun _ => 0)), (q5, zA (cA 0) 384 (fun _ => 0)), (q6, zA (cA 0) 24 (fun _ => 0)), (q7, zA (cA 2) 24 (fun _ => 0)), (q8, zA (cA 0) 16 (fun _ => 0)), (q9, zA (cA 0) 16 (fun _ => 0)), (q10, zA (cA 0) 1536 (fun _ => 0)), (q11, zA (cA 0) 384 (fun _ => 0)), (q12, zA (cA 0) 64 (fun _ => 0)), (q13, zA (cA 0) 576 (fun _ => 0)), (q14, zA (cA 0) 225 (fun _ => 0)), (q15, zA (cA 0) 272 (fun _ => 0))]) (As := []) C hK hA hZ hP hD hS [0, 1] [2, 3, 4, 5, 6, 7, 8, 9, 10, 11, 12, 13, 14, 15] [14, 15, 0, 1, 2, 3, 4, 5, 6, 7, 8, 9, 10, 11, 12, 13] rfl rfl rfl (by decide) (cX12_plain_m l G D cA h q1 q2 q3 q4 q5 q6 q7 q8 q9 q10 q11 q12 q13 q14 q15 0 0 0 0 0 0 (((-1))) 0 0 0 0 (fun _ => 0) H.size N hp) (cwV 0 hts (gAllV q746 q747 q748 q749 q727) rfl rfl rfl (by decide +kernel) ⟨Nat.le_of_ble_eq_true rfl, Nat.le_of_ble_eq_true rfl⟩) 0 11 rfl rfl rfl rfl hl.1 rfl (Nat.le_of_ble_eq_true rfl) ⟨Nat.le_of_ble_eq_true rfl, Nat.le_of_ble_eq_true rfl⟩ dX12_init_140 (fun H locs hP hD hS => ?_)
  obtain ⟨u9, hu9⟩ : ∃ u9 : Nat → Nat, u9 0 = q1 ∧ u9 1 = q2 ∧ u9 2 = q3 ∧ u9 3 = q4 ∧ u9 4 = q5 ∧ u9 5 = q6 ∧ u9 6 = q7 ∧ u9 7 = q8 ∧ u9 8 = q9 ∧ u9 9 = q10 ∧ u9 10 = q11 ∧ u9 11 = q12 ∧ u9 12 = q13 ∧ u9 13 = q14 ∧ u9 14 = q15 := ⟨fun k => ([q1, q2, q3, q4, q5, q6, q7, q8, q9, q10, q11, q12, q13, q14, q15] : List Nat).getD k 0, rfl, rfl, rfl, rfl, rfl, rfl, rfl, rfl, rfl, rfl, rfl, rfl, rfl, rfl, rfl⟩
  have hP9 := hP.sub (ws' := (wX12_init cA rp h u9)) [0, 1, 2, 3, 4, 5, 6, 7, 8, 9, 10, 11, 12, 13, 14, 15] (by simp only [wX12_init, hu9]; rfl)
  have hD9 := hD.sub (ws' := (wX12_init cA rp h u9)) [0, 1, 2, 3, 4, 5, 6, 7, 8, 9, 10, 11, 12, 13, 14, 15] (by decide) (by simp only [wX12_init, hu9]; rfl)
  exact W.vret B.exec B.bytes B.returns (fun t ht hW => ⟨⟨u9, rfl, trivial, by rw [ht]; exact hP9, va_K.moved hW.alike hK, hD9⟩, hS.F ht⟩) hS.2.2 dX12_init_143
