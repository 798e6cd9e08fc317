/-! The law at its entry: two objects and a row are made, then its loop. Written by wip/whole/law/mkwhole.py. -/
section SU
theorem lw_init {N : Nat} (hN : 12000 < N) {r : Int × Int × Int × (Nat → Int) × (Nat → Int) × (Nat → Int) × (Nat → Int)} {rp : Nat → Int} (h : r.1 = 4 ∧ r.2.1 = 4 ∧ r.2.2.1 = 0 ∧ (∀ t, t < 24 → r.2.2.2.1 t = 0) ∧ (∀ t, t < 24 → r.2.2.2.2.1 t = 0) ∧ (∀ k, k < 4 → r.2.2.2.2.2.1 k = 1) ∧ ∀ k, k < 6 → r.2.2.2.2.2.2 k = usZ k) (g : rp 0 = 4 ∧ rp 1 = 4 ∧ rp 2 = 0 ∧ (∀ k, k < 6 → rp (3 + k) = usZ k) ∧ (∀ k, k < 4 → rp (9 + k) = 1) ∧ rp 13 = 0 ∧ rp 14 = 0) : LwI r.1 r.2.1 r.2.2.1 (fun _ => 0) r.2.2.2.1 r.2.2.2.2.1 r.2.2.2.2.2.2 r.2.2.2.2.2.1 rp 0 (fun _ => 0) 0 (fun _ => 0) (fun _ => 0) 0 (fun _ => 0) (fun _ => 0) (fun _ => 0) (fun _ => 0) 0 0 (fun _ => 0) (fun _ => 0) (fun _ => 0) (fun _ _ => 0) (fun _ => r.2.2.2.1) (fun _ => r.2.2.2.2.1) (fun _ => r.2.2.2.2.2.2) (fun _ => r.2.2.2.2.2.1) (fun _ => r.1) (fun _ => r.2.1) (fun _ => r.2.2.1) (fun _ => 0) 0 0 0 0 (fun _ => 0) (fun _ => 0) 0 0 ((-1)) ((-1)) := by
  obtain ⟨h1, h2, h3, h4, h5, h6, h7⟩ := h
  obtain ⟨g1, g2, g3, g4, g5, g6, g7⟩ := g
  refine ⟨4, 4, 0, h1, h2, h3, ?_, ?_, Or.inl rfl, Or.inl rfl, Or.inl rfl, fun v _ => rfl, ⟨0, by omega, rfl, rfl, fun j hj => by omega⟩, ⟨0, by omega, rfl, rfl, fun k hk => by omega⟩, rfl, rfl⟩
  · refine ⟨by omega, by omega, by omega, fun t p ht => by omega, fun t ht => Or.inl (h4 t ht), fun t ht => Or.inl (h5 t ht), fun t _ ht => ⟨h4 t ht, h5 t ht⟩, fun k hk => ?_, ?_, fun k hk => ?_⟩
    · rw [h7 k hk]; exact us_b2 hk
    · rw [h7 1 (by omega), h7 2 (by omega)]; decide
    · rw [h6 k hk]; omega
  · refine ⟨g1, g2, g3, fun k hk => ?_, fun k hk => ?_, ?_, ?_, fun t p ht => by omega⟩
    · rw [g4 k hk, h7 k hk]
    · rw [g5 k hk, h6 k hk]
    · rw [g6]; exact bits_0 h4
    · rw [g7]; exact bits_0 h5
theorem vLaw_t : ∀ w ∈ vLaw, w ∈ lw_tbl := fun w h => (List.mem_cons.mp h).elim (fun e => by rw [e]; exact wAll_t _ q0) (fun h => (List.mem_append.mp h).elim (wAll_t w) (wEx_t w))
theorem gLawI {c0 c1 : Cond} (h5 : c1 ∈ wAll) : GoodIn (c0 :: (wAll ++ wEx)) (c1 :: wAll) := gAllY (L := []) (fun _ h => absurd h List.not_mem_nil) h5
theorem z_newJ {p : Program} {l : Launch} {e : Env} {R : Room} {s : State} {m : MethodId} {args : Array Value} {below : List Frame} {meth : Method} {c : Code} {H : Heap} {locs : List Loc} {cells slots : Nat} {Q : State → Prop} {cc : ByteArray} {pc : Nat} {ls : Array Slot} {rest : List Value} {D : va_G} {cA : Nat → ClassId} {A : Nat → Prop} {ws : va_W} {H0 : Heap} (hexec : p.tables.exec = Jvm.exec) (hb : c.code = cc) (harr : (Cond.arrayClass .long).before args s = true) (hK : va_K D vwCl (zT cA) s) (hP : va_P D vwCl ws H) (hD : va_D A ws) (hS : va_S A H0 H locs) (hA : ∀ q, H0.size ≤ q → A q) {n : Int} {N' : Nat} (hn : ¬ iZ n < 0) (hN : (iZ n).toNatClampNeg = N') (hbytes : N' * componentBytes .long ≤ 536870912) (hcells : cells + 1 ≤ R.cells) (hslots : slots + N' ≤ R.slots) (hdg : decode cc pc = .ok (.newarray .long, 2))
    (kk : ∀ (q : Nat) (H1 : Heap), va_P D vwCl (ws ++ [(q, zJ (cA 4) N' (fun _ => 0))]) H1 → va_D A (ws ++ [(q, zJ (cA 4) N' (fun _ => 0))]) → va_S A H0 H1 locs → W p l e R s m args below meth c H1 locs (cells + 1) (slots + N') Q (F0 m (pc + 2) ls (.ref q :: rest))) : W p l e R s m args below meth c H locs cells slots Q (F0 m pc ls (.int (iZ n) :: rest)) := by
  refine va_newa (atype := .long) (ty := .long) (a0 := (N', .inr (.inl (fun _ => (iZ 0).toInt64)))) hexec hb harr rfl hK hP hD hS hA (fun _ => rfl) hn hN hbytes hcells hslots hdg (fun q cN H1 hK2 hP2 hD2 hS2 => ?_)
  have e1 : cN = cA 4 := zK_one hK (t := 4) rfl rfl rfl hK2
  subst e1
  exact kk q H1 hP2 hD2 hS2
set_option maxHeartbeats 8000000 in
set_option maxRecDepth 100000 in
theorem lw_pro {p : Program} {l : Launch} {e : Env} {s : State} {m : MethodId} {args : Array Value} {below : List Frame} {meth : Method} {c : Code} {Q : State → Prop} {G : ZG} {D : va_G} {cA : Nat → ClassId} {A : Nat → Prop} {b : Nat} (N : Nat) {r : Int × Int × Int × (Nat → Int) × (Nat → Int) × (Nat → Int) × (Nat → Int)} {rp : Nat → Int} (hc : fX2_clear N 0 0 0 (fun _ => 0) (fun _ => 0) (fun _ => 0) (fun _ => 0) = some r) (hp : fX12_plain N (fun _ => 0) = some rp) (C : CallFix p m c cL_law 7 s args vLaw RL) (hK : va_K D vwCl (zT cA) s) (hA : ∀ q, s.heap.size ≤ q → A q) (hZ : zSt G A s s.heap) (hNc : zNc s) (ls : Array Slot) (hl : lv_has ls 7 [(0, .ref b)])
    (kk : ∀ (qx qy qo : Nat) (u1 u2 : Nat → Nat) (H : Heap) (locs : List Loc) (ls : Array Slot), va_P D vwCl (wX11_init cA r qx u1 ++ wX12_init cA rp qy u2 ++ [(qo, zJ (cA 4) 1 (fun _ => 0))]) H → va_D A (wX11_init cA r qx u1 ++ wX12_init cA rp qy u2 ++ [(qo, zJ (cA 4) 1 (fun _ => 0))]) → va_S A s.heap H locs → lv_has ls 7 [(4, .int (iZ 0)), (3, .ref qo), (2, .ref qy), (1, .ref qx), (0, .ref b)] → W p l e room_1 s m args below meth c H locs 133 47207 Q (F0 m 23 ls [])) : W p l e room_1 s m args below meth c s.heap [] 0 0 Q (F0 m 0 ls []) := by
  obtain ⟨hx, hb, hml, hown, hts⟩ := id C
  have hq : ∀ w ∈ wAll, w.before args s = true := fun w h => hts w (List.mem_cons_of_mem _ (List.mem_append_left _ h))
  have hP : va_P D vwCl [] s.heap := fun k q h => by simp at h
  have hD : va_D A [] := ⟨fun i j p q h => by simp at h, fun k q h => by simp at h⟩
  have hS : va_S A s.heap s.heap [] := va_S.rf
  refine va_new (ci := 10) (fs := [.null, .null, .null, .null, .null, .null, .null, .null, .null]) (C := RX11) (T := TX11) (N := 9) hx hb hq in_wsX110 tyX11 tyX11_ok hown (hq _ q1035) (hq _ q1036) (hq _ q547) hK hP hD hS hA rfl (fun j hj => by rcases (show j = 0 ∨ j = 1 ∨ j = 2 ∨ j = 3 ∨ j = 4 ∨ j = 5 ∨ j = 6 ∨ j = 7 ∨ j = 8 by omega) with rfl | rfl | rfl | rfl | rfl | rfl | rfl | rfl | rfl <;> rfl) (Nat.le_of_ble_eq_true rfl) (Nat.le_of_ble_eq_true rfl) dL_law_0 (fun qx H hP hD hS => ?_)
  have hP : va_P D vwCl [(qx, .inr (10, [.null, .null, .null, .null, .null, .null, .null, .null, .null]))] H := hP
  have hD : va_D A [(qx, .inr (10, [.null, .null, .null, .null, .null, .null, .null, .null, .null]))] := hD
  refine W.widen (k := 1) (n := 9) (Nat.le_of_ble_eq_true rfl) (Nat.le_of_ble_eq_true rfl) ?_
  refine lv_dup hx hb dL_law_3 rfl ?_
  refine z_callCI (G := G) (D := D) (cA := cA) (wc := [(qx, .inr (10, [.null, .null, .null, .null, .null, .null, .null, .null, .null]))]) (wr := []) (w1 := wX11_init cA r qx) C hK hA hZ hNc hP hD hS [0] [] rfl rfl (by decide) (cX11_init_m l G D cA qx H.size N hc) (cwI 0 hts (gLawI q525) rfl rfl rfl (hq _ q547) (hq _ q1040) (hq _ q1041) rfl (by decide +kernel) ⟨Nat.le_of_ble_eq_true rfl, Nat.le_of_ble_eq_true rfl⟩) hl.1 rfl (Nat.le_of_ble_eq_true rfl) ⟨Nat.le_of_ble_eq_true rfl, Nat.le_of_ble_eq_true rfl⟩ dL_law_4 (fun u1 H locs hP hD hS => ?_)
  have hP : va_P D vwCl (wX11_init cA r qx u1) H := hP
  have hD : va_D A (wX11_init cA r qx u1) := hD
  refine W.widen (k := 116) (n := 27249) (Nat.le_of_ble_eq_true rfl) (Nat.le_of_ble_eq_true rfl) ?_
  refine lv_astore_n (lv' := [(1, .ref qx), (0, .ref b)]) hx hb dL_law_7 rfl hl (by decide) rfl (fun ls hl => ?_)
  refine va_new (ci := 11) (fs := [.null, .null, .null, .int (iZ 0), .int (iZ 0), .null, .int (iZ 0), .int (iZ 0), .int (iZ 0), .int (iZ 0), .int (iZ 0), .int (iZ 0), .int (iZ 0), .int (iZ 0), .null, .null, .null, .null, .null, .null, .null, .int (iZ 0), .null, .null, .null, .null]) (C := RX12) (T := TX12) (N := 26) hx hb hq in_wsX120 tyX12 tyX12_ok hown (hq _ q1037) (hq _ q1038) (hq _ q749) hK hP hD hS hA rfl (fun j hj => by rcases (show j = 0 ∨ j = 1 ∨ j = 2 ∨ j = 3 ∨ j = 4 ∨ j = 5 ∨ j = 6 ∨ j = 7 ∨ j = 8 ∨ j = 9 ∨ j = 10 ∨ j = 11 ∨ j = 12 ∨ j = 13 ∨ j = 14 ∨ j = 15 ∨ j = 16 ∨ j = 17 ∨ j = 18 ∨ j = 19 ∨ j = 20 ∨ j = 21 ∨ j = 22 ∨ j = 23 ∨ j = 24 ∨ j = 25 by omega) with rfl | rfl | rfl | rfl | rfl | rfl | rfl | rfl | rfl | rfl | rfl | rfl | rfl | rfl | rfl | rfl | rfl | rfl | rfl | rfl | rfl | rfl | rfl | rfl | rfl | rfl <;> rfl) (Nat.le_of_ble_eq_true rfl) (Nat.le_of_ble_eq_true rfl) dL_law_8 (fun qy H hP hD hS => ?_)
  have hP : va_P D vwCl (wX11_init cA r qx u1 ++ [(qy, .inr (11, [.null, .null, .null, .int (iZ 0), .int (iZ 0), .null, .int (iZ 0), .int (iZ 0), .int (iZ 0), .int (iZ 0), .int (iZ 0), .int (iZ 0), .int (iZ 0), .int (iZ 0), .null, .null, .null, .null, .null, .null, .null, .int (iZ 0), .null, .null, .null, .null]))]) H := hP
  have hD : va_D A (wX11_init cA r qx u1 ++ [(qy, .inr (11, [.null, .null, .null, .int (iZ 0), .int (iZ 0), .null, .int (iZ 0), .int (iZ 0), .int (iZ 0), .int (iZ 0), .int (iZ 0), .int (iZ 0), .int (iZ 0), .int (iZ 0), .null, .null, .null, .null, .null, .null, .null, .int (iZ 0), .null, .null, .null, .null]))]) := hD
  refine W.widen (k := 117) (n := 27275) (Nat.le_of_ble_eq_true rfl) (Nat.le_of_ble_eq_true rfl) ?_
  refine lv_dup hx hb dL_law_11 rfl ?_
  refine z_callCI (G := G) (D := D) (cA := cA) (wc := [(qy, .inr (11, [.null, .null, .null, .int (iZ 0), .int (iZ 0), .null, .int (iZ 0), .int (iZ 0), .int (iZ 0), .int (iZ 0), .int (iZ 0), .int (iZ 0), .int (iZ 0), .int (iZ 0), .null, .null, .null, .null, .null, .null, .null, .int (iZ 0), .null, .null, .null, .null]))]) (wr := wX11_init cA r qx u1) (w1 := wX12_init cA rp qy) C hK hA hZ hNc hP hD hS [116] [0, 1, 2, 3, 4, 5, 6, 7, 8, 9, 10, 11, 12, 13, 14, 15, 16, 17, 18, 19, 20, 21, 22, 23, 24, 25, 26, 27, 28, 29, 30, 31, 32, 33, 34, 35, 36, 37, 38, 39, 40, 41, 42, 43, 44, 45, 46, 47, 48, 49, 50, 51, 52, 53, 54, 55, 56, 57, 58, 59, 60, 61, 62, 63, 64, 65, 66, 67, 68, 69, 70, 71, 72, 73, 74, 75, 76, 77, 78, 79, 80, 81, 82, 83, 84, 85, 86, 87, 88, 89, 90, 91, 92, 93, 94, 95, 96, 97, 98, 99, 100, 101, 102, 103, 104, 105, 106, 107, 108, 109, 110, 111, 112, 113, 114, 115] rfl rfl (by decide) (cX12_init_m l G D cA qy H.size N hp) (cwI 0 hts (gLawI q750) rfl rfl rfl (hq _ q749) (hq _ q1042) (hq _ q1043) rfl (by decide +kernel) ⟨Nat.le_of_ble_eq_true rfl, Nat.le_of_ble_eq_true rfl⟩) hl.1 rfl (Nat.le_of_ble_eq_true rfl) ⟨Nat.le_of_ble_eq_true rfl, Nat.le_of_ble_eq_true rfl⟩ dL_law_12 (fun u2 H locs hP hD hS => ?_)
  refine W.widen (k := 132) (n := 47206) (Nat.le_of_ble_eq_true rfl) (Nat.le_of_ble_eq_true rfl) ?_
  refine lv_astore_n (lv' := [(2, .ref qy), (1, .ref qx), (0, .ref b)]) hx hb dL_law_15 rfl hl (by decide) rfl (fun ls hl => ?_)
  refine z_iconst hx hb dL_law_16 ?_
  refine z_newJ (N' := 1) hx hb (hq _ q1039) hK hP hD hS hA (by decide) (by decide) (Nat.le_of_ble_eq_true rfl) (Nat.le_of_ble_eq_true rfl) (Nat.le_of_ble_eq_true rfl) dL_law_17 (fun qo H hP hD hS => ?_)
  refine W.widen (k := 133) (n := 47207) (Nat.le_of_ble_eq_true rfl) (Nat.le_of_ble_eq_true rfl) ?_
  refine lv_astore_n (lv' := [(3, .ref qo), (2, .ref qy), (1, .ref qx), (0, .ref b)]) hx hb dL_law_19 rfl hl (by decide) rfl (fun ls hl => ?_)
  refine z_iconst hx hb dL_law_20 ?_
  refine lv_istore (lv' := [(4, .int (iZ 0)), (3, .ref qo), (2, .ref qy), (1, .ref qx), (0, .ref b)]) hx hb dL_law_21 hl (by decide) rfl (fun ls hl => ?_)
  exact kk qx qy qo u1 u2 H _ ls hP hD hS hl
end SU
