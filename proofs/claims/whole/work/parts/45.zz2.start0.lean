/-! What the Statement gives where the law is entered: statics, words, Strings, classes. Written by wip/whole/law/mkstart.py. -/
section ST
abbrev sA (s : State) : Nat → Prop := fun q : Nat => s.heap.size ≤ q
theorem sA_n (s : State) : ∀ a : Nat, a < s.heap.size → ¬ sA s a := fun _ h => Nat.not_le.mpr h
abbrev fC : List Cond := flatC (Jvm.Cond.and given_1 narrow_1)
def tmL : List Term := [.string "FlickerDesk$Word" 70, .string "FlickerDesk$Word" 76, .string "FlickerDesk$Word" 79, .string "FlickerDesk$Word" 82, .string "FlickerDesk$Word" 85, .string "FlickerDesk$Word" 88, .string "FlickerDesk$Word" 91, .string "FlickerDesk$Word" 94, .string "FlickerDesk$Word" 97, .string "FlickerDesk$Word" 100, .string "FlickerDesk$Word" 103, .string "FlickerDesk$Word" 106, .string "FlickerDeskModel" 102]
def tmS (i : Nat) : Term := tmL.getD i (.int 0)
def tmW (i : Nat) : Term := .static "FlickerDesk$Word" (zWn.getD i "") "LFlickerDesk$Word;"
def tmA : Term := .static "FlickerDesk" "WORDS" "[LFlickerDesk$Word;"
def usL : List Int32 := [1, 0, 15, 15, 0, 0]
def hsL : List Int32 := [3, 15, 15, 15, 999, 2]
theorem f_us : ∀ j : Fin 6, Cond.eq (.elem (.static "FlickerDesk" "USUAL_SETTINGS" "[I") (.int (Int32.ofNat j.val))) (.int (usL.getD j.val 0)) ∈ fC := by decide +kernel
theorem v_us : ∀ j : Fin 6, usL.getD j.val 0 = iZ (usZ j.val) := by decide +kernel
theorem f_hs : ∀ j : Fin 6, Cond.eq (.elem (.static "FlickerDesk" "HIGHEST_SETTINGS" "[I") (.int (Int32.ofNat j.val))) (.int (hsL.getD j.val 0)) ∈ fC := by decide +kernel
theorem v_hs : ∀ j : Fin 6, hsL.getD j.val 0 = iZ (hsZ j.val) := by decide +kernel
theorem f_el : ∀ j : Fin 12, Cond.eq (.elem tmA (.int (Int32.ofNat j.val))) (tmW j.val) ∈ fC := by decide +kernel
theorem f_ls : ∀ j : Fin 12, Cond.laysStatic "FlickerDesk$Word" (zWn.getD j.val "") "LFlickerDesk$Word;" ∈ lw_tbl := by decide +kernel
theorem f_ex : ∀ j : Fin 12, Cond.exactly (tmW j.val) "FlickerDesk$Word" ∈ fC := by decide +kernel
theorem f_on : ∀ j : Fin 12, Cond.eq (.field (tmW j.val) "FlickerDesk$Word" "once" "I") (.int (zOnce.getD j.val 0)) ∈ fC := by decide +kernel
theorem f_tx : ∀ j : Fin 12, Cond.eq (.field (tmW j.val) "FlickerDesk$Word" "text" "Ljava/lang/String;") (tmS j.val) ∈ fC := by decide +kernel
def nwP : List Nat := [0, 43, 99, 48, 110, 122, 135, 149, 69, 78, 54, 61, 43, 0, 100, 49, 111, 123, 136, 150, 70, 79, 55, 62, 99, 100, 0, 101, 117, 129, 142, 156, 104, 105, 102, 103, 48, 49, 101, 0, 112, 124, 137, 151, 71, 80, 56, 63, 110, 111, 117, 112, 0, 130, 143, 157, 115, 116, 113, 114, 122, 123, 129, 124, 130, 0, 144, 158, 127, 128, 125, 126, 135, 136, 142, 137, 143, 144, 0, 159, 140, 141, 138, 139, 149, 150, 156, 151, 157, 158, 159, 0, 154, 155, 152, 153, 69, 70, 104, 71, 115, 127, 140, 154, 0, 83, 72, 73, 78, 79, 105, 80, 116, 128, 141, 155, 83, 0, 81, 82, 54, 55, 102, 56, 113, 125, 138, 152, 72, 81, 0, 64, 61, 62, 103, 63, 114, 126, 139, 153, 73, 82, 64, 0]
theorem f_nwp : ∀ i j : Fin 12, i ≠ j → (fC[nwP.getD (12 * i.val + j.val) 0]? = some (Cond.not (.eq (tmW i.val) (tmW j.val))) ∨ fC[nwP.getD (12 * i.val + j.val) 0]? = some (Cond.not (.eq (tmW j.val) (tmW i.val)))) := by decide +kernel
theorem f_nw : ∀ i j : Fin 12, i ≠ j → (Cond.not (.eq (tmW i.val) (tmW j.val)) ∈ fC ∨ Cond.not (.eq (tmW j.val) (tmW i.val)) ∈ fC) := fun i j h => (f_nwp i j h).elim (fun h => Or.inl (List.mem_of_getElem? h)) (fun h => Or.inr (List.mem_of_getElem? h))
theorem f_sx : ∀ j : Fin 13, Cond.exactly (tmS j.val) "java/lang/String" ∈ fC := by decide +kernel
theorem f_sc : ∀ j : Fin 13, Cond.eq (.field (tmS j.val) "java/lang/String" "coder" "B") (.int 0) ∈ fC := by decide +kernel
theorem f_sa : ∀ j : Fin 13, Cond.arrayOf (.field (tmS j.val) "java/lang/String" "value" "[B") .byte ∈ fC := by decide +kernel
theorem f_sl : ∀ j : Fin 13, Cond.eq (.length (.field (tmS j.val) "java/lang/String" "value" "[B")) (.int (Int32.ofNat (zLen.getD j.val 0))) ∈ fC := by decide +kernel
def seP : List Nat := [278, 288, 374, 300, 393, 412, 432, 452, 340, 357, 314, 326, 201]
theorem f_sep : ∀ i : Fin 13, ∀ j : Fin 72, j.val < zLen.getD i.val 0 → fC[seP.getD i.val 0 + j.val]? = some (Cond.eq (.elem (.field (tmS i.val) "java/lang/String" "value" "[B") (.int (Int32.ofNat j.val))) (.int ((zByt.getD i.val []).getD j.val 0))) := by decide +kernel
theorem f_se : ∀ i : Fin 13, ∀ j : Fin 72, j.val < zLen.getD i.val 0 → Cond.eq (.elem (.field (tmS i.val) "java/lang/String" "value" "[B") (.int (Int32.ofNat j.val))) (.int ((zByt.getD i.val []).getD j.val 0)) ∈ fC := fun i j h => List.mem_of_getElem? (f_sep i j h)
def snP : List Nat := [0, 295, 382, 308, 400, 419, 438, 460, 348, 364, 319, 332, 283, 295, 0, 383, 309, 401, 420, 439, 461, 349, 365, 320, 333, 294, 382, 383, 0, 384, 407, 426, 445, 467, 387, 388, 385, 386, 381, 308, 309, 384, 0, 402, 421, 440, 462, 350, 366, 321, 334, 307, 400, 401, 407, 402, 0, 427, 446, 468, 405, 406, 403, 404, 399, 419, 420, 426, 421, 427, 0, 447, 469, 424, 425, 422, 423, 418, 438, 439, 445, 440, 446, 447, 0, 470, 443, 444, 441, 442, 437, 460, 461, 467, 462, 468, 469, 470, 0, 465, 466, 463, 464, 459, 348, 349, 387, 350, 405, 424, 443, 465, 0, 369, 351, 352, 347, 364, 365, 388, 366, 406, 425, 444, 466, 369, 0, 367, 368, 363, 319, 320, 385, 321, 403, 422, 441, 463, 351, 367, 0, 335, 318, 332, 333, 386, 334, 404, 423, 442, 464, 352, 368, 335, 0, 331, 283, 294, 381, 307, 399, 418, 437, 459, 347, 363, 318, 331, 0]
theorem f_snp : ∀ i j : Fin 13, i ≠ j → (fC[snP.getD (13 * i.val + j.val) 0]? = some (Cond.not (.eq (tmS i.val) (tmS j.val))) ∨ fC[snP.getD (13 * i.val + j.val) 0]? = some (Cond.not (.eq (tmS j.val) (tmS i.val)))) := by decide +kernel
theorem f_sn : ∀ i j : Fin 13, i ≠ j → (Cond.not (.eq (tmS i.val) (tmS j.val)) ∈ fC ∨ Cond.not (.eq (tmS j.val) (tmS i.val)) ∈ fC) := fun i j h => (f_snp i j h).elim (fun h => Or.inl (List.mem_of_getElem? h)) (fun h => Or.inr (List.mem_of_getElem? h))
theorem z_ln : ∀ j : Fin 13, zLen.getD j.val 0 ≤ 72 := by decide
theorem z_Xof {args : Array Value} {s : State} {tm : Term} {N : Nat} {xs : Nat → Int32} (hN : N < 2 ^ 31) (harr : (Cond.arrayOf tm .int).before args s = true) (hlen : (Term.length tm).eval args s none [] s = some (.int (Int32.ofNat N))) (hel : ∀ j : Nat, j < N → (Term.elem tm (.int (Int32.ofNat j))).eval args s none [] s = some (.int (xs j))) : ∃ t : Nat, tm.eval args s none [] s = some (.ref t) ∧ va_X t N xs s s.heap ∧ t < s.heap.size := by
  obtain ⟨t, ht, cell, h1, h2, h3, h4, h5, h6, -⟩ := va_Tof (A := fun _ => False) (f := fun j => .int (xs j)) hN harr hlen hel (fun _ _ z => z)
  obtain ⟨t2, cell2, ht2, hat2, -⟩ := Term.length_spec hlen
  cases ht.symm.trans ht2
  obtain ⟨hc2, -, -, -⟩ := State.arrayAt?_spec hat2
  cases h1.symm.trans hc2
  have hsz : cell.slots.size < 2 ^ 31 := by
    simp only [Term.eval, ht, hat2, Option.bind_eq_bind, Option.bind_some] at hlen
    by_cases hlt : cell.slots.size < 2147483648
    · exact hlt
    · simp [hlt] at hlen
  have hs2 : cell.slots.size = N := by
    have e1 := congrArg Int32.toNatClampNeg h5
    have e2 : (Int32.ofNat cell.slots.size).toNatClampNeg = cell.slots.size := Int32.toNatClampNeg_ofNat_of_lt hsz
    have e3 : (Int32.ofNat N).toNatClampNeg = N := Int32.toNatClampNeg_ofNat_of_lt hN
    rw [e3] at e1
    exact e2.symm.trans e1
  exact ⟨t, ht, ⟨cell, h1, h2, h3, hs2, h6⟩, (Array.getElem?_eq_some_iff.mp h1).1⟩
theorem st_A {args : Array Value} {s : State} (hts : ∀ w ∈ lw_tbl, w.before args s = true) (hs : ∀ w ∈ fC, w.before args s = true) : ∃ g1 g2 : Nat, va_Z "FlickerDesk" "USUAL_SETTINGS" "[I" (.ref g1) (sA s) s s.heap ∧ va_Z "FlickerDesk" "HIGHEST_SETTINGS" "[I" (.ref g2) (sA s) s s.heap ∧ (va_X g1 6 (fun j => iZ (usZ j)) s s.heap ∧ ¬ sA s g1) ∧ (va_X g2 6 (fun j => iZ (hsZ j)) s s.heap ∧ ¬ sA s g2) := by
  obtain ⟨g1, a1, a2, a3⟩ := z_Xof (tm := .static "FlickerDesk" "USUAL_SETTINGS" "[I") (N := 6) (xs := fun j => iZ (usZ j)) (by decide) (hs _ (by decide +kernel)) (va_eqt (z := 6) (hs _ (by decide +kernel))) (fun j hj => by
    have h := va_eqt (hs _ (f_us ⟨j, hj⟩))
    rw [v_us ⟨j, hj⟩] at h
    exact h)
  obtain ⟨g2, b1, b2, b3⟩ := z_Xof (tm := .static "FlickerDesk" "HIGHEST_SETTINGS" "[I") (N := 6) (xs := fun j => iZ (hsZ j)) (by decide) (hs _ (by decide +kernel)) (va_eqt (z := 6) (hs _ (by decide +kernel))) (fun j hj => by
    have h := va_eqt (hs _ (f_hs ⟨j, hj⟩))
    rw [v_hs ⟨j, hj⟩] at h
    exact h)
  exact ⟨g1, g2, va_Zref (hts _ (List.mem_of_getElem? (i := 146) (by decide +kernel))) (hts _ (List.mem_of_getElem? (i := 98) (by decide +kernel))) a1 (sA_n s), va_Zref (hts _ (List.mem_of_getElem? (i := 609) (by decide +kernel))) (hts _ (List.mem_of_getElem? (i := 98) (by decide +kernel))) b1 (sA_n s), ⟨a2, sA_n s _ a3⟩, b2, sA_n s _ b3⟩
theorem st_B {args : Array Value} {s : State} (hts : ∀ w ∈ lw_tbl, w.before args s = true) (hs : ∀ w ∈ fC, w.before args s = true) : ∃ (g3 : Nat) (ad adK adV : Nat → Nat), (va_Z "FlickerDesk" "WORDS" "[LFlickerDesk$Word;" (.ref g3) (sA s) s s.heap ∧ va_T (.object "FlickerDesk$Word") g3 12 (fun j => .ref (ad j)) (sA s) s s.heap ∧ va_En "FlickerDesk$Word" "LFlickerDesk$Word;" zWn [("FlickerDesk$Word", "once", "I", zOnce)] ad (sA s) s s.heap ∧ va_Ef 12 "FlickerDesk$Word" "text" "Ljava/lang/String;" (fun i => .ref (adK i)) ad (sA s) s s.heap ∧ vk_S 13 zLen zByt adK adV (sA s) s s.heap) ∧ vk_R "FlickerDeskModel" 102 (zTxt.getD 12 "") (adK 12) s := by
  have hl12 : zWn.length = 12 := rfl
  obtain ⟨ad, hEn, hev⟩ := va_Enof2 (E := "FlickerDesk$Word") (d := "LFlickerDesk$Word;") (nm := zWn) (F := [("FlickerDesk$Word", "once", "I", zOnce)]) (A := sA s) (s := s) (args := args) (fun i hi => hts _ (f_ls ⟨i, hi⟩)) (hts _ (List.mem_of_getElem? (i := 117) (by decide +kernel))) (fun i hi => hs _ (f_ex ⟨i, hi⟩)) (fun q hq i hi => by
    rw [List.mem_singleton.mp hq]
    exact hs _ (f_on ⟨i, hi⟩)) (fun i j hi hj hij => (f_nw ⟨i, hi⟩ ⟨j, hj⟩ (fun e => hij (Fin.mk.inj e))).elim (fun h => Or.inl (hs _ h)) (fun h => Or.inr (hs _ h))) (sA_n s)
  obtain ⟨adK, adV, hS, hek⟩ := vk_Sof (N := 13) (tm := tmS) (len := zLen) (byt := zByt) (A := sA s) (s := s) (args := args) (fun i hi => Nat.lt_of_le_of_lt (z_ln ⟨i, hi⟩) (by decide)) (fun i hi => hs _ (f_sx ⟨i, hi⟩)) (fun i hi => hs _ (f_sc ⟨i, hi⟩)) (fun i hi => hs _ (f_sa ⟨i, hi⟩)) (fun i hi => hs _ (f_sl ⟨i, hi⟩)) (fun i hi j hj => hs _ (f_se ⟨i, hi⟩ ⟨j, Nat.lt_of_lt_of_le hj (z_ln ⟨i, hi⟩)⟩ hj)) (fun i j hi hj hij => (f_sn ⟨i, hi⟩ ⟨j, hj⟩ (fun e => hij (Fin.mk.inj e))).elim (fun h => Or.inl (hs _ h)) (fun h => Or.inr (hs _ h))) (sA_n s)
  obtain ⟨g3, e3, hT⟩ := va_Tof (tm := tmA) (ty := .object "FlickerDesk$Word") (N := 12) (f := fun j => .ref (ad j)) (A := sA s) (s := s) (args := args) (by decide) (hs _ (by decide +kernel)) (va_eqt (z := 12) (hs _ (by decide +kernel))) (fun j hj => va_eqv (hs _ (f_el ⟨j, hj⟩)) (hev j hj)) (sA_n s)
  exact ⟨g3, ad, adK, adV, ⟨va_Zref (hts _ (List.mem_of_getElem? (i := 497) (by decide +kernel))) (hts _ (List.mem_of_getElem? (i := 98) (by decide +kernel))) e3 (sA_n s), hT, hEn, va_Efof (tm := tmS) (nm := zWn) (E := "FlickerDesk$Word") (d0 := "LFlickerDesk$Word;") (fun i hi => hev i hi) (fun i hi => hs _ (f_tx ⟨i, hi⟩)) (fun i hi => hek i (Nat.lt_trans hi (by decide))) (sA_n s), hS⟩, vk_R.of (hts _ (List.mem_of_getElem? (i := 1287) (by decide +kernel))) (hek 12 (by decide))⟩
theorem st_Z {args : Array Value} {s : State} (hts : ∀ w ∈ lw_tbl, w.before args s = true) (hs : ∀ w ∈ fC, w.before args s = true) : ∃ G : ZG, zSt G (sA s) s s.heap := by
  obtain ⟨g1, g2, hA⟩ := st_A hts hs
  obtain ⟨g3, ad, adK, adV, hB, hR⟩ := st_B hts hs
  refine ⟨(g1, g2, g3, ad, adK, adV), hA, hB, ?_, ?_, ?_, ?_, hR, ?_, ?_⟩
  · exact va_Nw.of rfl (hts _ (List.mem_of_getElem? (i := 145) (by decide +kernel)))
  · exact va_Nw.of rfl (hts _ (List.mem_of_getElem? (i := 645) (by decide +kernel)))
  · exact va_Nw.of rfl (hts _ (List.mem_of_getElem? (i := 608) (by decide +kernel)))
  · exact va_Nw.of rfl (hts _ (List.mem_of_getElem? (i := 496) (by decide +kernel)))
  · exact va_Zof (hts _ (List.mem_of_getElem? (i := 511) (by decide +kernel))) (hts _ (List.mem_of_getElem? (i := 112) (by decide +kernel))) (va_eqi (hs _ (by decide +kernel))) (sA_n s)
  · exact va_Zqof (hts _ (List.mem_of_getElem? (i := 527) (by decide +kernel))) (hts _ (List.mem_of_getElem? (i := 114) (by decide +kernel))) (hs _ (by decide +kernel)) (sA_n s)
theorem st_X {args : Array Value} {s : State} (hts : ∀ w ∈ lw_tbl, w.before args s = true) (hs : ∀ w ∈ fC, w.before args s = true) : zX (sA s) s s.heap := by
  refine ⟨?_, ?_, ?_, ?_, ?_, ?_, ?_⟩
  · exact vx_Zqof (hts _ (List.mem_of_getElem? (i := 1123) (by decide +kernel))) (hts _ (List.mem_of_getElem? (i := 120) (by decide +kernel))) (hs _ (by decide +kernel)) (sA_n s)
  · exact vx_Zqof (hts _ (List.mem_of_getElem? (i := 1125) (by decide +kernel))) (hts _ (List.mem_of_getElem? (i := 120) (by decide +kernel))) (hs _ (by decide +kernel)) (sA_n s)
  · obtain ⟨a, c, cell, k, q1, -⟩ := Cond.exactly_spec (args := args) (first := s) (o := none) (s := s) (idx := []) (t := .string "FlickerDesk" 163) (cls := "java/lang/String") (hs (Cond.exactly (.string "FlickerDesk" 163) "java/lang/String") (by decide +kernel))
    exact ⟨a, vk_R.of (hts _ (List.mem_of_getElem? (i := 1135) (by decide +kernel))) q1⟩
  · exact va_Nw.of rfl (hts _ (List.mem_of_getElem? (i := 1098) (by decide +kernel)))
  · exact va_Nw.of rfl (hts _ (List.mem_of_getElem? (i := 1100) (by decide +kernel)))
  · exact va_Nw.of rfl (hts _ (List.mem_of_getElem? (i := 1102) (by decide +kernel)))
  · exact va_Nw.of rfl (hts _ (List.mem_of_getElem? (i := 1104) (by decide +kernel)))
theorem st_N {args : Array Value} {s : State} (hts : ∀ w ∈ lw_tbl, w.before args s = true) : zNc s := ⟨va_Nw.of rfl (hts _ (List.mem_of_getElem? (i := 215) (by decide +kernel))), va_Nw.of rfl (hts _ (List.mem_of_getElem? (i := 228) (by decide +kernel))), va_Nw.of rfl (hts _ (List.mem_of_getElem? (i := 252) (by decide +kernel))), va_Nw.of rfl (hts _ (List.mem_of_getElem? (i := 209) (by decide +kernel))), va_Nw.of rfl (hts _ (List.mem_of_getElem? (i := 310) (by decide +kernel))), va_Nw.of rfl (hts _ (List.mem_of_getElem? (i := 374) (by decide +kernel))), va_Nw.of rfl (hts _ (List.mem_of_getElem? (i := 400) (by decide +kernel))), va_Nw.of rfl (hts _ (List.mem_of_getElem? (i := 414) (by decide +kernel))), va_AO.of (hts _ (List.mem_of_getElem? (i := 362) (by decide +kernel)))⟩
theorem st_K {args : Array Value} {s : State} (hts : ∀ w ∈ lw_tbl, w.before args s = true) : ∃ (D : va_G) (cA : Nat → ClassId), va_K D vwCl (zT cA) s := by
  obtain ⟨c0, i0, h0⟩ := u_known (C := RX0) (T := TX0) (N := 2) (n := 2) hts wsX00_t (hts _ (List.mem_of_getElem? (i := 356) (by decide +kernel)))
  obtain ⟨c1, i1, h1⟩ := u_known (C := RX1) (T := TX1) (N := 9) (n := 9) hts wsX10_t (hts _ (List.mem_of_getElem? (i := 208) (by decide +kernel)))
  obtain ⟨c2, i2, h2⟩ := u_known (C := RX2) (T := TX2) (N := 8) (n := 8) hts wsX20_t (hts _ (List.mem_of_getElem? (i := 133) (by decide +kernel)))
  obtain ⟨c3, i3, h3⟩ := u_known (C := RX3) (T := TX3) (N := 2) (n := 2) hts wsX30_t (hts _ (List.mem_of_getElem? (i := 399) (by decide +kernel)))
  obtain ⟨c4, i4, h4⟩ := u_known (C := RX4) (T := TX4) (N := 3) (n := 3) hts wsX40_t (hts _ (List.mem_of_getElem? (i := 413) (by decide +kernel)))
  obtain ⟨c5, i5, h5⟩ := u_known (C := RX5) (T := TX5) (N := 6) (n := 6) hts wsX50_t (hts _ (List.mem_of_getElem? (i := 373) (by decide +kernel)))
  obtain ⟨c6, i6, h6⟩ := u_known (C := RX6) (T := TX6) (N := 5) (n := 5) hts wsX60_t (hts _ (List.mem_of_getElem? (i := 251) (by decide +kernel)))
  obtain ⟨c7, i7, h7⟩ := u_known (C := RX7) (T := TX7) (N := 11) (n := 11) hts wsX70_t (hts _ (List.mem_of_getElem? (i := 309) (by decide +kernel)))
  obtain ⟨c8, i8, h8⟩ := u_known (C := RX8) (T := TX8) (N := 4) (n := 4) hts wsX80_t (hts _ (List.mem_of_getElem? (i := 227) (by decide +kernel)))
  obtain ⟨c9, i9, h9⟩ := u_known (C := RX9) (T := TX9) (N := 1) (n := 1) hts wsX90_t (hts _ (List.mem_of_getElem? (i := 214) (by decide +kernel)))
  obtain ⟨c10, i10, h10⟩ := u_known (C := RX11) (T := TX11) (N := 9) (n := 9) hts wsX110_t (hts _ (List.mem_of_getElem? (i := 125) (by decide +kernel)))
  obtain ⟨c11, i11, h11⟩ := u_known (C := RX12) (T := TX12) (N := 26) (n := 26) hts wsX120_t (hts _ (List.mem_of_getElem? (i := 1167) (by decide +kernel)))
  obtain ⟨a0, k0, m0, f0, g0, j0⟩ := Cond.arrayClass_spec (type := .int) (show (Cond.arrayClass .int).before args s = true from (hts _ (List.mem_of_getElem? (i := 206) (by decide +kernel))))
  obtain ⟨a1, k1, m1, f1, g1, j1⟩ := Cond.arrayClass_spec (type := .byte) (show (Cond.arrayClass .byte).before args s = true from (hts _ (List.mem_of_getElem? (i := 1161) (by decide +kernel))))
  obtain ⟨a2, k2, m2, f2, g2, j2⟩ := Cond.arrayClass_spec (type := .boolean) (show (Cond.arrayClass .boolean).before args s = true from (hts _ (List.mem_of_getElem? (i := 354) (by decide +kernel))))
  obtain ⟨a4, k4, m4, f4, g4, j4⟩ := Cond.arrayClass_spec (type := .long) (show (Cond.arrayClass .long).before args s = true from (hts _ (List.mem_of_getElem? (i := 1628) (by decide +kernel))))
  obtain ⟨m3, a3, k3, f3, -, g3, j3, l3⟩ := Cond.arrayOver_spec (n := "FlickerDesk$Film") (show (Cond.arrayOver (.object "FlickerDesk$Film")).before args s = true from (hts _ (List.mem_of_getElem? (i := 362) (by decide +kernel))))
  refine ⟨(fun k => [c0, c1, c2, c3, c4, c5, c6, c7, c8, c9, c10, c11].getD k c0, fun k => [i0, i1, i2, i3, i4, i5, i6, i7, i8, i9, i10, i11].getD k i0), fun k => [a0, a1, a2, a3, a4].getD k a0, ?_, ?_⟩
  · intro k q hq
    match k, hq with
    | 0, hq => cases hq; exact h0
    | 1, hq => cases hq; exact h1
    | 2, hq => cases hq; exact h2
    | 3, hq => cases hq; exact h3
    | 4, hq => cases hq; exact h4
    | 5, hq => cases hq; exact h5
    | 6, hq => cases hq; exact h6
    | 7, hq => cases hq; exact h7
    | 8, hq => cases hq; exact h8
    | 9, hq => cases hq; exact h9
    | 10, hq => cases hq; exact h10
    | 11, hq => cases hq; exact h11
    | k + 12, hq => simp [vwCl] at hq
  · intro k q hq
    match k, hq with
    | 0, hq => cases hq; exact ⟨fun n z => ⟨fun k h => (by cases h), k0, g0, m0, j0⟩, f0⟩
    | 1, hq => cases hq; exact ⟨fun n z => ⟨fun k h => (by cases h), k1, g1, m1, j1⟩, f1⟩
    | 2, hq => cases hq; exact ⟨fun n z => ⟨fun k h => (by cases h), k2, g2, m2, j2⟩, f2⟩
    | 3, hq => cases hq; exact ⟨fun n z => ⟨fun k h => (by cases h), k3, g3, m3, j3⟩, k3, m3, g3, j3, f3, l3⟩
    | 4, hq => cases hq; exact ⟨fun n z => ⟨fun k h => (by cases h), k4, g4, m4, j4⟩, f4⟩
    | k + 5, hq => simp [zT] at hq
end ST
