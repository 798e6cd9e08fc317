/-! A line read. -/
section QG
theorem len_w2 {z : Nat} (hz : z < 12) : 3 ≤ lenZ z ∧ lenZ z ≤ 6 := len_w ⟨z, hz⟩
theorem wd_cases (tx : Nat → Int) (a L : Nat) : wdI tx a L = -1 ∨ ∃ z : Nat, z < 12 ∧ wdI tx a L = (z : Int) ∧ 3 ≤ L := by
  by_cases h : wdF tx a L < 12
  · refine Or.inr ⟨wdF tx a L, h, if_pos h, ?_⟩
    have hs : 1 ≤ wmG tx a L (wdF tx a L) := (lsF_spec (wmG tx a L) 1 12).2.2 h
    rcases Classical.em (wmP tx a L (wdF tx a L)) with w | w
    · have h1 := w.1
      have h2 := len_w2 h
      omega
    · rw [wmG_f w] at hs; omega
  · exact Or.inl (if_neg h)
def ToR (to : Nat → Int) (sn m5 : Int) : Prop := ∃ sb : Nat → Int, BitsR sn sb ∧ to 6 = sb 0 ∧ to 0 = sb 2 ∧ to 1 = sb 4 ∧ to 2 = sb 5 ∧ to 3 = sb 6 ∧ to 4 = sb 7 ∧ ((to 5 = 0 ∧ m5 = 0 ∧ sb 8 = 0 ∧ sb 9 = 0) ∨ (to 5 = 1 ∧ 1 ≤ m5))
def ooP (z F : Nat) (to : Nat → Int) : Prop := (z = 0 ∧ 0 < F) ∨ (onceZ z ≠ -1 ∧ to (onceZ z).toNat = 1)
theorem once_b : ∀ z : Fin 12, onceZ z.val = -1 ∨ (0 ≤ onceZ z.val ∧ onceZ z.val < 7) := by decide +kernel
theorem ToR.bit {to : Nat → Int} {sn m5 : Int} (h : ToR to sn m5) : ∀ k, k < 7 → to k = 0 ∨ to k = 1 := by
  obtain ⟨sb, hb, t6, t0, t1, t2, t3, t4, t5⟩ := h
  intro k hk
  have hc : k = 0 ∨ k = 1 ∨ k = 2 ∨ k = 3 ∨ k = 4 ∨ k = 5 ∨ k = 6 := by omega
  rcases hc with rfl | rfl | rfl | rfl | rfl | rfl | rfl
  · rw [t0]; exact hb.val (by omega)
  · rw [t1]; exact hb.val (by omega)
  · rw [t2]; exact hb.val (by omega)
  · rw [t3]; exact hb.val (by omega)
  · rw [t4]; exact hb.val (by omega)
  · rcases t5 with t5 | t5
    · exact Or.inl t5.1
    · exact Or.inr t5.1
  · rw [t6]; exact hb.val (by omega)
theorem outp_ok {N z F : Nat} {to : Nat → Int} (hz : z < 12) (hF : F ≤ 24) (ht : ∀ k, k < 7 → to k = 0 ∨ to k = 1) : Ok (fX7_isOutOfPlace N z F to) (fun r => (r = 1 ∧ ooP z F to) ∨ (r = 0 ∧ ¬ ooP z F to)) := by
  have hb : onceZ z = -1 ∨ (0 ≤ onceZ z ∧ onceZ z < 7) := once_b ⟨z, hz⟩
  have tail : ¬ (z = 0 ∧ 0 < F) → Ok (fX7_isOutOfPlace_j19 N z F to) (fun r => (r = 1 ∧ ooP z F to) ∨ (r = 0 ∧ ¬ ooP z F to)) := by
    intro hn
    unfold fX7_isOutOfPlace_j19
    rcases hb with h | h
    · refine Ok.eqp h (Ok.ret (Or.inr ⟨rfl, ?_⟩))
      rintro (w | w)
      · exact hn w
      · exact w.1 h
    · have hk := ht (onceZ z).toNat (by omega)
      refine Ok.eqn (by omega) (Ok.gd (by omega) (Ok.eq (by omega) (fun q => Ok.ret (Or.inr ⟨rfl, ?_⟩)) (fun q => Ok.ret (Or.inl ⟨rfl, Or.inr ⟨by omega, by omega⟩⟩))))
      rintro (w | w)
      · exact hn w
      · have := w.2; omega
  unfold fX7_isOutOfPlace
  by_cases h0 : z = 0
  · rw [if_pos h0]
    exact Ok.lt (by omega) (fun q => Ok.ret (Or.inl ⟨rfl, Or.inl ⟨h0, by omega⟩⟩)) (fun q => tail (by omega))
  · rw [if_neg h0]; exact tail (by omega)
/-! the reference's head of a line -/
theorem mh_115 {N e z F : Nat} {ty s : Nat → Int} {a wa sn sf ra : Int} {P : Int × Int × Int × Int × Int × Int × (Nat → Int) → Prop} (hz : z < 12) (hF : F ≤ 24) (s2 : s 2 = (F : Int)) (hf : z = 1 → F = 24 → Ok (fX12_lineRead_j137 N e ty z a 5 a sn sf ra s) P) (hk : (z = 1 → F < 24) → Ok (fX12_lineRead_j137 N e ty z a 0 wa sn sf ra s) P) : Ok (fX12_lineRead_j115 N e ty z a a 0 wa sn sf ra s) P := by
  unfold fX12_lineRead_j115
  rw [(show ((2 : Int)).toNat = 2 from rfl), s2]
  refine Ok.eq (by omega) (fun q => Ok.gd (by omega) (Ok.eq (by omega) (fun q2 => Ok.bind fails_0 (fun r19 h19 => ?_)) (fun q2 => hk (by omega)))) (fun q => hk (by omega))
  subst h19
  exact hf (by omega) (by omega)
theorem mh_78 {N e z F : Nat} {ty s : Nat → Int} {a wa sn sf ra i4 : Int} {P : Int × Int × Int × Int × Int × Int × (Nat → Int) → Prop} (hz : z < 12) (hF : F ≤ 24) (s2 : s 2 = (F : Int)) (s8 : 0 ≤ s 8 ∧ s 8 ≤ 2) (h4 : (i4 = 1 ∧ (z = 8 ∨ z = 9)) ∨ (i4 = 0 ∧ z ≠ 8 ∧ z ≠ 9)) (ho : (z = 0 ∧ 0 < F) ∨ ((z = 8 ∨ z = 9) ∧ 0 < s 8) → Ok (fX12_lineRead_j137 N e ty z a 1 a sn sf ra s) P) (hf : z = 1 → F = 24 → Ok (fX12_lineRead_j137 N e ty z a 5 a sn sf ra s) P) (hk : ¬ ((z = 0 ∧ 0 < F) ∨ ((z = 8 ∨ z = 9) ∧ 0 < s 8)) → (z = 1 → F < 24) → Ok (fX12_lineRead_j137 N e ty z a 0 wa sn sf ra s) P) : Ok (fX12_lineRead_j78 N e ty z a i4 a 0 wa sn sf ra s) P := by
  have h91 : ¬ (z = 0 ∧ 0 < F) → Ok (fX12_lineRead_j91 N e ty z a i4 a 0 wa sn sf ra s) P := by
    intro hn
    unfold fX12_lineRead_j91
    rw [(show ((8 : Int)).toNat = 8 from rfl)]
    refine Ok.eq (by omega) (fun q => mh_115 hz hF s2 hf (fun y => hk (by omega) y)) (fun q => Ok.gd (by omega) (Ok.lt (by omega) (fun q2 => Ok.bind fails_0 (fun r22 h22 => ?_)) (fun q2 => mh_115 hz hF s2 hf (fun y => hk (by omega) y))))
    subst h22
    exact ho (by omega)
  unfold fX12_lineRead_j78
  rw [(show ((2 : Int)).toNat = 2 from rfl), s2]
  refine Ok.eq (by omega) (fun q => Ok.gd (by omega) (Ok.lt (by omega) (fun q2 => Ok.bind fails_0 (fun r25 h25 => ?_)) (fun q2 => h91 (by omega)))) (fun q => h91 (by omega))
  subst h25
  exact ho (by omega)
theorem mline_head {N e a z F : Nat} {tx ty s sb : Nat → Int} {wa sn sf ra : Int} {P : Int × Int × Int × Int × Int × Int × (Nat → Int) → Prop} (hT : TpR e tx ty) (he : e ≤ 900) (ha : a ≤ e) (hcc : bkS tx e a = a) (hN : 1000 < N) (hz : z < 12) (hw : wdI tx a (llS tx e a) = (z : Int)) (hF : F ≤ 24) (s2 : s 2 = (F : Int)) (s8 : 0 ≤ s 8 ∧ s 8 ≤ 2) (hb : BitsR sn sb) (ho : (z ≠ 1 ∧ z ≠ 3 ∧ z ≠ 10 ∧ z ≠ 11 ∧ sb z = 1) ∨ (z = 0 ∧ 0 < F) ∨ ((z = 8 ∨ z = 9) ∧ 0 < s 8) → Ok (fX12_lineRead_j137 N e ty z a 1 a sn sf ra s) P) (hf : z = 1 → F = 24 → Ok (fX12_lineRead_j137 N e ty z a 5 a sn sf ra s) P) (hk : ¬ ((z ≠ 1 ∧ z ≠ 3 ∧ z ≠ 10 ∧ z ≠ 11 ∧ sb z = 1) ∨ (z = 0 ∧ 0 < F) ∨ ((z = 8 ∨ z = 9) ∧ 0 < s 8)) → (z = 1 → F < 24) → Ok (fX12_lineRead_j137 N e ty z a 0 wa sn sf ra s) P) : Ok (fX12_lineRead N e ty a 0 wa sn sf ra s) P := by
  have hbit : aZ (rZ sn (z : Int)) 1 = sb z := bits_ok hb (by omega)
  have hbv := hb.val (t := z) (by omega)
  unfold fX12_lineRead
  refine Ok.bind (wordHere_ok hT he ha hN) (fun r1 h1 => ?_)
  rw [hcc, hw] at h1
  subst h1
  have h55 : ∀ i3 i4 : Int, ((i3 = 0 ∧ (z = 1 ∨ z = 3 ∨ z = 10 ∨ z = 11)) ∨ (i3 = 1 ∧ z ≠ 1 ∧ z ≠ 3 ∧ z ≠ 10 ∧ z ≠ 11)) → ((i4 = 1 ∧ (z = 8 ∨ z = 9)) ∨ (i4 = 0 ∧ z ≠ 8 ∧ z ≠ 9)) → Ok (fX12_lineRead_j55 N e ty z a i3 i4 a 0 wa sn sf ra s) P := by
    intro i3 i4 h3 h4
    unfold fX12_lineRead_j55
    rw [hbit]
    refine Ok.eqn (by omega) (Ok.eq (by omega) (fun q => ?_) (fun q => Ok.eq (by omega) (fun q2 => Ok.bind fails_0 (fun r27 h27 => ?_)) (fun q2 => ?_)))
    · exact mh_78 hz hF s2 s8 h4 (fun y => ho (Or.inr y)) hf (fun y1 y2 => hk (by
        rintro (w | w)
        · omega
        · exact y1 w) y2)
    · subst h27
      exact ho (Or.inl (by omega))
    · exact mh_78 hz hF s2 s8 h4 (fun y => ho (Or.inr y)) hf (fun y1 y2 => hk (by
        rintro (w | w)
        · omega
        · exact y1 w) y2)
  have h37 : ∀ i3 : Int, ((i3 = 0 ∧ (z = 1 ∨ z = 3 ∨ z = 10 ∨ z = 11)) ∨ (i3 = 1 ∧ z ≠ 1 ∧ z ≠ 3 ∧ z ≠ 10 ∧ z ≠ 11)) → Ok (fX12_lineRead_j37 N e ty z a i3 a 0 wa sn sf ra s) P := by
    intro i3 h3
    unfold fX12_lineRead_j37
    exact Ok.eq (by omega) (fun q => h55 _ _ h3 (by omega)) (fun q => Ok.eq (by omega) (fun q2 => h55 _ _ h3 (by omega)) (fun q2 => h55 _ _ h3 (by omega)))
  show Ok (if iZ (z : Int) = iZ 1 then (fX12_lineRead_j37 N e ty z a 0 a 0 wa sn sf ra s) else (if iZ (z : Int) = iZ 3 then (fX12_lineRead_j37 N e ty z a 0 a 0 wa sn sf ra s) else (if iZ (z : Int) = iZ 10 then (fX12_lineRead_j37 N e ty z a 0 a 0 wa sn sf ra s) else (if iZ (z : Int) = iZ 11 then (fX12_lineRead_j37 N e ty z a 0 a 0 wa sn sf ra s) else (fX12_lineRead_j37 N e ty z a 1 a 0 wa sn sf ra s))))) P
  exact Ok.eq (by omega) (fun q => h37 _ (by omega)) (fun q => Ok.eq (by omega) (fun q => h37 _ (by omega)) (fun q => Ok.eq (by omega) (fun q => h37 _ (by omega)) (fun q => Ok.eq (by omega) (fun q => h37 _ (by omega)) (fun q => h37 _ (by omega)))))
/-! the class's and the reference's notes of what was told -/
theorem ToR.out {to sb : Nat → Int} {sn m5 : Int} {z F : Nat} (hz : z < 12) (hb : BitsR sn sb) (t6 : to 6 = sb 0) (t0 : to 0 = sb 2) (t1 : to 1 = sb 4) (t2 : to 2 = sb 5) (t3 : to 3 = sb 6) (t4 : to 4 = sb 7) (t5 : (to 5 = 0 ∧ m5 = 0 ∧ sb 8 = 0 ∧ sb 9 = 0) ∨ (to 5 = 1 ∧ 1 ≤ m5)) : ((z ≠ 1 ∧ z ≠ 3 ∧ z ≠ 10 ∧ z ≠ 11 ∧ sb z = 1) ∨ (z = 0 ∧ 0 < F) ∨ ((z = 8 ∨ z = 9) ∧ 0 < m5)) ↔ ooP z F to := by
  obtain ⟨o0, o1, o2, o3, o4, o5, o6, o7, o8, o9, o10, o11⟩ := once_v
  have b8 := hb.val (t := 8) (by omega)
  have b9 := hb.val (t := 9) (by omega)
  unfold ooP
  have hc : z = 0 ∨ z = 1 ∨ z = 2 ∨ z = 3 ∨ z = 4 ∨ z = 5 ∨ z = 6 ∨ z = 7 ∨ z = 8 ∨ z = 9 ∨ z = 10 ∨ z = 11 := by omega
  rcases hc with rfl | rfl | rfl | rfl | rfl | rfl | rfl | rfl | rfl | rfl | rfl | rfl
  · rw [o0, (show ((6 : Int)).toNat = 6 from rfl), t6]; omega
  · rw [o1]; omega
  · rw [o2, Int.toNat_natCast, t0]; omega
  · rw [o3]; omega
  · rw [o4, Int.toNat_natCast, t1]; omega
  · rw [o5, Int.toNat_natCast, t2]; omega
  · rw [o6, Int.toNat_natCast, t3]; omega
  · rw [o7, Int.toNat_natCast, t4]; omega
  · rw [o8, (show ((5 : Int)).toNat = 5 from rfl)]; omega
  · rw [o9, (show ((5 : Int)).toNat = 5 from rfl)]; omega
  · rw [o10]; omega
  · rw [o11]; omega
theorem ToR.put {to : Nat → Int} {sn m5 : Int} {z : Nat} (hz : z < 12) (h : ToR to sn m5) (hm : z = 8 ∨ z = 9 → to 5 = 0) : ToR (if onceZ z = -1 then to else uZ to (onceZ z).toNat 1) (oZ sn (lZ 1 (z : Int))) (mdZ z m5) := by
  obtain ⟨sb, hb, t6, t0, t1, t2, t3, t4, t5⟩ := h
  obtain ⟨o0, o1, o2, o3, o4, o5, o6, o7, o8, o9, o10, o11⟩ := once_v
  refine ⟨uZ sb z 1, hb.put (by omega), ?_⟩
  have hc : z = 0 ∨ z = 1 ∨ z = 2 ∨ z = 3 ∨ z = 4 ∨ z = 5 ∨ z = 6 ∨ z = 7 ∨ z = 8 ∨ z = 9 ∨ z = 10 ∨ z = 11 := by omega
  rcases hc with rfl | rfl | rfl | rfl | rfl | rfl | rfl | rfl | rfl | rfl | rfl | rfl
  · rw [o0, if_neg (by omega), (show ((6 : Int)).toNat = 6 from rfl)]; exact ⟨rfl, t0, t1, t2, t3, t4, t5⟩
  · rw [o1, if_pos rfl]; exact ⟨t6, t0, t1, t2, t3, t4, t5⟩
  · rw [o2, if_neg (by omega), Int.toNat_natCast]; exact ⟨t6, rfl, t1, t2, t3, t4, t5⟩
  · rw [o3, if_pos rfl]; exact ⟨t6, t0, t1, t2, t3, t4, t5⟩
  · rw [o4, if_neg (by omega), Int.toNat_natCast]; exact ⟨t6, t0, rfl, t2, t3, t4, t5⟩
  · rw [o5, if_neg (by omega), Int.toNat_natCast]; exact ⟨t6, t0, t1, rfl, t3, t4, t5⟩
  · rw [o6, if_neg (by omega), Int.toNat_natCast]; exact ⟨t6, t0, t1, t2, rfl, t4, t5⟩
  · rw [o7, if_neg (by omega), Int.toNat_natCast]; exact ⟨t6, t0, t1, t2, t3, rfl, t5⟩
  · rw [o8, if_neg (by omega), (show ((5 : Int)).toNat = 5 from rfl)]; exact ⟨t6, t0, t1, t2, t3, t4, Or.inr ⟨rfl, by show (1 : Int) ≤ 1; omega⟩⟩
  · rw [o9, if_neg (by omega), (show ((5 : Int)).toNat = 5 from rfl)]; exact ⟨t6, t0, t1, t2, t3, t4, Or.inr ⟨rfl, by show (1 : Int) ≤ 2; omega⟩⟩
  · rw [o10, if_pos rfl]; exact ⟨t6, t0, t1, t2, t3, t4, t5⟩
  · rw [o11, if_pos rfl]; exact ⟨t6, t0, t1, t2, t3, t4, t5⟩
end QG
