/-! Calls, statics: what every contract carries; the form of a contract; returns. -/
section ZC
def usZ : Nat → Int := fun j => ([1, 0, 15, 15, 0, 0] : List Int).getD j 0
def hsZ : Nat → Int := fun j => ([3, 15, 15, 15, 999, 2] : List Int).getD j 0
/-- addresses of what is static: USUAL_SETTINGS, HIGHEST_SETTINGS, WORDS, the words, the Strings, their rows -/
abbrev ZG : Type := Nat × Nat × Nat × (Nat → Nat) × (Nat → Nat) × (Nat → Nat)
def zWn : List String := ["SIZE", "FRAME", "RADIUS_LINE", "WEIGHT", "BLACK_LINE", "WHITE_LINE", "STEP_LINE", "BORDER_LINE", "SPREAD", "KEYED", "CUT", "SKIP"]
def zOnce : List Int32 := [6, -1, 0, -1, 1, 2, 3, 4, 5, 5, -1, -1]
def zTxt : List String := ["size", "frame", "radius", "weight", "black", "white", "step", "border", "spread", "keyed", "cut", "skip", " size frame radius weight black white step border spread keyed cut skip "]
def zLen : List Nat := [4, 5, 6, 6, 5, 5, 4, 6, 6, 5, 3, 4, 72]
def zByt : List (List Int32) := [[115, 105, 122, 101], [102, 114, 97, 109, 101], [114, 97, 100, 105, 117, 115], [119, 101, 105, 103, 104, 116], [98, 108, 97, 99, 107], [119, 104, 105, 116, 101], [115, 116, 101, 112], [98, 111, 114, 100, 101, 114], [115, 112, 114, 101, 97, 100], [107, 101, 121, 101, 100], [99, 117, 116], [115, 107, 105, 112], [32, 115, 105, 122, 101, 32, 102, 114, 97, 109, 101, 32, 114, 97, 100, 105, 117, 115, 32, 119, 101, 105, 103, 104, 116, 32, 98, 108, 97, 99, 107, 32, 119, 104, 105, 116, 101, 32, 115, 116, 101, 112, 32, 98, 111, 114, 100, 101, 114, 32, 115, 112, 114, 101, 97, 100, 32, 107, 101, 121, 101, 100, 32, 99, 117, 116, 32, 115, 107, 105, 112, 32]]
def zStA (G : ZG) (A : Nat → Prop) (U : State) (H : Heap) : Prop :=
  va_Z "FlickerDesk" "USUAL_SETTINGS" "[I" (.ref G.1) A U H ∧ va_Z "FlickerDesk" "HIGHEST_SETTINGS" "[I" (.ref G.2.1) A U H ∧
  (va_X G.1 6 (fun j => iZ (usZ j)) U H ∧ ¬ A G.1) ∧ (va_X G.2.1 6 (fun j => iZ (hsZ j)) U H ∧ ¬ A G.2.1)
def zStB (G : ZG) (A : Nat → Prop) (U : State) (H : Heap) : Prop :=
  va_Z "FlickerDesk" "WORDS" "[LFlickerDesk$Word;" (.ref G.2.2.1) A U H ∧ va_T (.object "FlickerDesk$Word") G.2.2.1 12 (fun j => .ref (G.2.2.2.1 j)) A U H ∧
  va_En "FlickerDesk$Word" "LFlickerDesk$Word;" zWn [("FlickerDesk$Word", "once", "I", zOnce)] G.2.2.2.1 A U H ∧
  va_Ef 12 "FlickerDesk$Word" "text" "Ljava/lang/String;" (fun i => .ref (G.2.2.2.2.1 i)) G.2.2.2.1 A U H ∧
  vk_S 13 zLen zByt G.2.2.2.2.1 G.2.2.2.2.2 A U H
def zStN (G : ZG) (A : Nat → Prop) (U : State) (H : Heap) : Prop :=
  va_Nw (.fieldLinkNest "FlickerDesk$Film" 46 "FlickerDesk" "USUAL_SETTINGS" "[I" "FlickerDesk") U ∧ va_Nw (.fieldLinkNest "FlickerDesk$Film" 63 "FlickerDesk" "HIGHEST_SETTINGS" "[I" "FlickerDesk") U ∧
  va_Nw (.fieldLinkNest "FlickerDesk$Reader" 154 "FlickerDesk" "HIGHEST_SETTINGS" "[I" "FlickerDesk") U ∧ va_Nw (.fieldLinkNest "FlickerDesk$Reader" 96 "FlickerDesk" "WORDS" "[LFlickerDesk$Word;" "FlickerDesk") U ∧
  vk_R "FlickerDeskModel" 102 (zTxt.getD 12 "") (G.2.2.2.2.1 12) U ∧ va_Z "java/lang/String" "COMPACT_STRINGS" "Z" (.int 1) A U H ∧ va_Zq "jdk/internal/util/Preconditions" "SIOOBE_FORMATTER" "Ljava/util/function/BiFunction;" A U H
def zSt (G : ZG) (A : Nat → Prop) (U : State) (H : Heap) : Prop := zStA G A U H ∧ zStB G A U H ∧ zStN G A U H
theorem zStA.moved {G : ZG} {A : Nat → Prop} {u U : State} {H : Heap} (hvm : u.vm.Alike U.vm) (h : zStA G A u H) : zStA G A U H := by
  obtain ⟨h1, h2, ⟨h3, h4⟩, h5, h6⟩ := h
  exact ⟨h1.moved hvm, h2.moved hvm, ⟨h3.moved hvm, h4⟩, h5.moved hvm, h6⟩
theorem zStB.moved {G : ZG} {A : Nat → Prop} {u U : State} {H : Heap} (hvm : u.vm.Alike U.vm) (h : zStB G A u H) : zStB G A U H := by
  obtain ⟨k1, k2, k3, k4, k5⟩ := h
  exact ⟨k1.moved hvm, k2.moved hvm, k3.moved hvm, k4.moved hvm, k5.moved hvm⟩
theorem zSt.same {G : ZG} {A : Nat → Prop} {u U : State} {H : Heap} (hv : u.vm = U.vm) (h : zSt G A u H) : zSt G A U H := by
  have hvm : u.vm.Alike U.vm := by rw [hv]; exact Vm.Alike.refl U.vm
  obtain ⟨a, b, n1, n2, n3, n4, n5, n6, n7⟩ := h
  exact ⟨a.moved hvm, b.moved hvm, va_Nw.same rfl hv n1, va_Nw.same rfl hv n2, va_Nw.same rfl hv n3, va_Nw.same rfl hv n4, vk_R.same hv.symm n5, n6.moved hvm, n7.moved hvm⟩
theorem zSt.warm {G : ZG} {A : Nat → Prop} {u U : State} {H : Heap} (hW : u.WarmedH U.vm) (h : zSt G A u H) : zSt G A U H := by
  have hvm : u.vm.Alike U.vm := hW.alike
  obtain ⟨a, b, n1, n2, n3, n4, n5, n6, n7⟩ := h
  exact ⟨a.moved hvm, b.moved hvm, va_Nw.warmF hW n1, va_Nw.warmF hW n2, va_Nw.warmF hW n3, va_Nw.warmF hW n4, vk_R.warm hW n5, n6.moved hvm, n7.moved hvm⟩
theorem va_X.lt {b L : Nat} {xs : Nat → Int32} {U : State} {H : Heap} (h : va_X b L xs U H) : b < H.size := by
  obtain ⟨scr, h1, -⟩ := h
  exact (Array.getElem?_eq_some_iff.mp h1).1
theorem zSt.kept {G : ZG} {A : Nat → Prop} {U : State} {H H1 : Heap} (h : zSt G A U H) (hq : ∀ a : Nat, a < H.size → ¬ A a → H1[a]? = H[a]?) : zSt G A U H1 := by
  obtain ⟨⟨h1, h2, ⟨h3, h4⟩, h5, h6⟩, ⟨k1, k2, k3, k4, k5⟩, n1, n2, n3, n4, n5, n6, n7⟩ := h
  exact ⟨⟨h1.kept hq, h2.kept hq, ⟨h3.kept (hq _ h3.lt h4), h4⟩, h5.kept (hq _ h5.lt h6), h6⟩, ⟨k1.kept hq, k2.kept hq, k3.kept hq, k4.kept hq, k5.kept hq⟩, n1, n2, n3, n4, n5, n6.kept hq, n7.kept hq⟩
theorem zSt.narrow {G : ZG} {A B : Nat → Prop} {U : State} {H : Heap} (h : zSt G A U H) (hAB : ∀ q, B q → A q) : zSt G B U H := by
  obtain ⟨⟨h1, h2, ⟨h3, h4⟩, h5, h6⟩, ⟨k1, k2, k3, k4, k5⟩, n1, n2, n3, n4, n5, n6, n7⟩ := h
  exact ⟨⟨h1.narrow hAB, h2.narrow hAB, ⟨h3, fun z => h4 (hAB _ z)⟩, h5, fun z => h6 (hAB _ z)⟩, ⟨k1.narrow hAB, k2.narrow hAB, k3.narrow hAB, k4.narrow hAB, k5.narrow hAB⟩, n1, n2, n3, n4, n5, n6.narrow hAB, n7.narrow hAB⟩
/-- what holds where a method is entered -/
def zPre (G : ZG) (D : va_G) (cA : Nat → ClassId) (wc : va_W) (sz : Nat) : State → Prop := fun U => U.heap.size = sz ∧ va_P D vwCl wc U.heap ∧ va_K D vwCl (zT cA) U ∧ va_D (fun _ => True) wc ∧ zSt G (va_A wc sz) U U.heap
/-- .. and where it is left -/
def zB (D : va_G) (cA : Nat → ClassId) (w1 : va_W) (A : Nat → Prop) : State → Prop := fun t => va_P D vwCl w1 t.heap ∧ va_K D vwCl (zT cA) t ∧ va_D A w1
def zMi (l : Launch) (y : MethodName) (ws : List Cond) (rm : Room) (G : ZG) (D : va_G) (cA : Nat → ClassId) (av : List Value) (wc w1 : va_W) (r : Int) (sz : Nat) : Prop :=
  Met l y ws rm (va_Pc av (zPre G D cA wc sz)) (va_Qi (fun v (_ : Unit) => v = iZ r) (fun _ t => zB D cA w1 (va_A wc sz) t) (va_A wc sz)) 0 0 (va_A wc sz)
def zMv (l : Launch) (y : MethodName) (ws : List Cond) (rm : Room) (G : ZG) (D : va_G) (cA : Nat → ClassId) (av : List Value) (wc w1 : va_W) (sz : Nat) : Prop :=
  Met l y ws rm (va_Pc av (zPre G D cA wc sz)) (va_Qv (fun (_ : Unit) => True) (fun _ t => zB D cA w1 (va_A wc sz) t) (va_A wc sz)) 0 0 (va_A wc sz)
def zMr (l : Launch) (y : MethodName) (ws : List Cond) (rm : Room) (G : ZG) (D : va_G) (cA : Nat → ClassId) (av : List Value) (wc w1 : va_W) (ra : Nat) (sz : Nat) : Prop :=
  Met l y ws rm (va_Pc av (zPre G D cA wc sz)) (va_Qr (fun (_ : Unit) => True) (fun _ q t => q = ra ∧ zB D cA w1 (va_A wc sz) t) (va_A wc sz)) 0 0 (va_A wc sz)
theorem z_blind (G : ZG) (D : va_G) (cA : Nat → ClassId) (av : List Value) (wc : va_W) (sz : Nat) : FrameBlind (va_Pc av (zPre G D cA wc sz)) := fun a U g mk q => by
  obtain ⟨q0, q1, qP, qK, qD, qZ⟩ := q
  exact ⟨q0, q1, qP, va_K.moved (u := U) (U := U.calling g mk a) (Vm.Alike.refl U.vm) qK, qD, zSt.same (u := U) (U := U.calling g mk a) rfl qZ⟩
theorem z_fm {ws ws' : va_W} {is : List Nat} (h : is.map (fun i => ws[i]?) = ws'.map some) : is.filterMap (fun i => ws[i]?) = ws' := by
  have h2 : (is.map (fun i => ws[i]?)).filterMap id = (ws'.map some).filterMap id := by rw [h]
  rw [List.filterMap_map, List.filterMap_map] at h2
  have h3 : ws'.filterMap (id ∘ some) = ws' := by simp
  rw [h3] at h2
  exact h2
variable {p : Program} {l : Launch} {e : Env} {R : Room} {s : State} {m : MethodId} {args : Array Value} {below : List Frame} {meth : Method} {c : Code} {H : Heap} {locs : List Loc} {cells slots : Nat} {Q : State → Prop} {cc : ByteArray} {pc : Nat} {ls : Array Slot} {rest : List Value}
variable {G : ZG} {D : va_G} {cA : Nat → ClassId} {A : Nat → Prop} {ws wc wr w1 ws' : va_W} {Ts wsM : List Cond} {nL n maxL index b : Nat} {own Cn : String} {y : MethodName} {rm : Room} {bytes : ByteArray} {ret : Option FieldType} {As st : List Value}
/-- the start of a callee, out of the caller's world -/
theorem z_start (hK : va_K D vwCl (zT cA) s) (hA : ∀ q, s.heap.size ≤ q → A q) (hZ : zSt G A s s.heap) (hP : va_P D vwCl ws H) (hD : va_D A ws) (hS : va_S A s.heap H locs) (isC : List Nat) (hC : isC.map (fun i => ws[i]?) = wc.map some) (hnC : va_nd isC = true) (av : List Value) : ∀ U : State, U.heap = H → s.WarmedH U.vm → va_Pc av (zPre G D cA wc H.size) av.toArray U := by
  intro U hU hW
  have hFc := va_free (wc := wc) hD hS hA isC hC
  exact ⟨rfl, by rw [hU], by rw [hU]; exact hP.sub isC (z_fm hC), va_K.moved hW.alike hK, (hD.sub isC hnC hC).weaken (fun _ _ _ _ => trivial), by rw [hU]; exact ((hZ.kept hS.2.1).narrow hFc).warm hW⟩
/-- the world behind a call -/
theorem z_after (hP : va_P D vwCl ws H) (hD : va_D A ws) (hFc : ∀ q, va_A wc H.size q → A q) (isC isR isF : List Nat) (hC : isC.map (fun i => ws[i]?) = wc.map some) (hR : isR.map (fun i => ws[i]?) = wr.map some) (hnR : va_nd isR = true) (hdis : ∀ i ∈ isR, i ∉ isC) (hF : isF.map (fun i => (wr ++ w1)[i]?) = ws'.map some) (hnF : va_nd isF = true) {H1 : Heap} {t : State} (ht : t.heap = H1) (hk : ∀ q : Nat, q < H.size → ¬ va_A wc H.size q → H1[q]? = H[q]?) (hB : zB D cA w1 (va_A wc H.size) t) : va_P D vwCl ws' H1 ∧ va_D A ws' := by
  obtain ⟨hP1, -, hD1⟩ := hB
  rw [ht] at hP1
  obtain ⟨hP2, hD2⟩ := va_join (wr := wr) (w1 := w1) hP hD isC isR hC hR hnR hdis hk hFc hP1 hD1
  exact ⟨hP2.sub isF (z_fm hF), hD2.sub isF hnF hF⟩
theorem z_callVi (C : CallFix p m c cc nL s args Ts own) (hK : va_K D vwCl (zT cA) s) (hA : ∀ q, s.heap.size ≤ q → A q) (hZ : zSt G A s s.heap) (hP : va_P D vwCl ws H) (hD : va_D A ws) (hS : va_S A s.heap H locs) (isC isR isF : List Nat) (hC : isC.map (fun i => ws[i]?) = wc.map some) (hR : isR.map (fun i => ws[i]?) = wr.map some) (hF : isF.map (fun i => (wr ++ w1)[i]?) = ws'.map some) (hn : va_nd isC = true ∧ va_nd isR = true ∧ va_nd isF = true ∧ ∀ i ∈ isR, i ∉ isC) {r : Int}
    (hM : zMi l y wsM rm G D cA (.ref b :: As) wc w1 r H.size) (cw : CallW R s args own Cn index y bytes maxL ret wsM rm 0 0 n) (q0 ci : Nat) {q : vw_C} {fs : List Value} (he : ws[q0]? = some (b, .inr (ci, fs))) (hc : vwCl[ci]? = some q) (hq : q.1 = Cn) (hAs : As.length = n) (hl : ls.size = nL) (hst : st = As.reverse ++ .ref b :: rest) (hW : (rest.map fun v => v.category).sum ≤ 8) (hcs : cells ≤ R.cells ∧ slots ≤ R.slots) (hdg : decode cc pc = .ok (.invokevirtual index, 3))
    (kk : ∀ (H1 : Heap) (locs1 : List Loc), va_P D vwCl ws' H1 → va_D A ws' → va_S A s.heap H1 locs1 → W p l e R s m args below meth c H1 locs1 cells slots Q (F0 m (pc + 3) ls (.int (iZ r) :: rest))) : W p l e R s m args below meth c H locs cells slots Q (F0 m pc ls st) := by
  have hFc := va_free (wc := wc) hD hS hA isC hC
  have hrc := va_recv hK hP (ci := ci) (q0 := q0) hc he
  rw [hq] at hrc
  refine va_calli (va_runV (As := As) (rest := rest) C hM cw ⟨z_blind G D cA _ wc _, hrc, z_start hK hA hZ hP hD hS isC hC hn.1 _⟩ rfl hAs hl hst (by show 2 * 0 + _ ≤ 8; omega) hdg hcs) hS (fun q _ h => hFc q h) hFc (fun r1 u t H1 locs1 ht hvm hw hB hz1 hk1 hS1 => ?_)
  obtain ⟨hP2, hD2⟩ := z_after hP hD hFc isC isR isF hC hR hn.2.1 hn.2.2.2 hF hn.2.2.1 ht hk1 hB
  rw [hw]
  exact kk H1 locs1 hP2 hD2 hS1
theorem z_callVv (C : CallFix p m c cc nL s args Ts own) (hK : va_K D vwCl (zT cA) s) (hA : ∀ q, s.heap.size ≤ q → A q) (hZ : zSt G A s s.heap) (hP : va_P D vwCl ws H) (hD : va_D A ws) (hS : va_S A s.heap H locs) (isC isR isF : List Nat) (hC : isC.map (fun i => ws[i]?) = wc.map some) (hR : isR.map (fun i => ws[i]?) = wr.map some) (hF : isF.map (fun i => (wr ++ w1)[i]?) = ws'.map some) (hn : va_nd isC = true ∧ va_nd isR = true ∧ va_nd isF = true ∧ ∀ i ∈ isR, i ∉ isC)
    (hM : zMv l y wsM rm G D cA (.ref b :: As) wc w1 H.size) (cw : CallW R s args own Cn index y bytes maxL ret wsM rm 0 0 n) (q0 ci : Nat) {q : vw_C} {fs : List Value} (he : ws[q0]? = some (b, .inr (ci, fs))) (hc : vwCl[ci]? = some q) (hq : q.1 = Cn) (hAs : As.length = n) (hl : ls.size = nL) (hst : st = As.reverse ++ .ref b :: rest) (hW : (rest.map fun v => v.category).sum ≤ 8) (hcs : cells ≤ R.cells ∧ slots ≤ R.slots) (hdg : decode cc pc = .ok (.invokevirtual index, 3))
    (kk : ∀ (H1 : Heap) (locs1 : List Loc), va_P D vwCl ws' H1 → va_D A ws' → va_S A s.heap H1 locs1 → W p l e R s m args below meth c H1 locs1 cells slots Q (F0 m (pc + 3) ls rest)) : W p l e R s m args below meth c H locs cells slots Q (F0 m pc ls st) := by
  have hFc := va_free (wc := wc) hD hS hA isC hC
  have hrc := va_recv hK hP (ci := ci) (q0 := q0) hc he
  rw [hq] at hrc
  refine va_callv (va_runV (As := As) (rest := rest) C hM cw ⟨z_blind G D cA _ wc _, hrc, z_start hK hA hZ hP hD hS isC hC hn.1 _⟩ rfl hAs hl hst (by show 2 * 0 + _ ≤ 8; omega) hdg hcs) hS (fun q _ h => hFc q h) hFc (fun u t H1 locs1 ht hvm hw hB hz1 hk1 hS1 => ?_)
  obtain ⟨hP2, hD2⟩ := z_after hP hD hFc isC isR isF hC hR hn.2.1 hn.2.2.2 hF hn.2.2.1 ht hk1 hB
  exact kk H1 locs1 hP2 hD2 hS1
theorem z_callVr (C : CallFix p m c cc nL s args Ts own) (hK : va_K D vwCl (zT cA) s) (hA : ∀ q, s.heap.size ≤ q → A q) (hZ : zSt G A s s.heap) (hP : va_P D vwCl ws H) (hD : va_D A ws) (hS : va_S A s.heap H locs) (isC isR isF : List Nat) (hC : isC.map (fun i => ws[i]?) = wc.map some) (hR : isR.map (fun i => ws[i]?) = wr.map some) (hF : isF.map (fun i => (wr ++ w1)[i]?) = ws'.map some) (hn : va_nd isC = true ∧ va_nd isR = true ∧ va_nd isF = true ∧ ∀ i ∈ isR, i ∉ isC) {r : Nat}
    (hM : zMr l y wsM rm G D cA (.ref b :: As) wc w1 r H.size) (cw : CallW R s args own Cn index y bytes maxL ret wsM rm 0 0 n) (q0 ci : Nat) {q : vw_C} {fs : List Value} (he : ws[q0]? = some (b, .inr (ci, fs))) (hc : vwCl[ci]? = some q) (hq : q.1 = Cn) (hAs : As.length = n) (hl : ls.size = nL) (hst : st = As.reverse ++ .ref b :: rest) (hW : (rest.map fun v => v.category).sum ≤ 8) (hcs : cells ≤ R.cells ∧ slots ≤ R.slots) (hdg : decode cc pc = .ok (.invokevirtual index, 3))
    (kk : ∀ (H1 : Heap) (locs1 : List Loc), va_P D vwCl ws' H1 → va_D A ws' → va_S A s.heap H1 locs1 → W p l e R s m args below meth c H1 locs1 cells slots Q (F0 m (pc + 3) ls (.ref r :: rest))) : W p l e R s m args below meth c H locs cells slots Q (F0 m pc ls st) := by
  have hFc := va_free (wc := wc) hD hS hA isC hC
  have hrc := va_recv hK hP (ci := ci) (q0 := q0) hc he
  rw [hq] at hrc
  refine va_callr (va_runV (As := As) (rest := rest) C hM cw ⟨z_blind G D cA _ wc _, hrc, z_start hK hA hZ hP hD hS isC hC hn.1 _⟩ rfl hAs hl hst (by show 2 * 0 + _ ≤ 8; omega) hdg hcs) hS (fun q _ h => hFc q h) hFc (fun u ra t H1 locs1 ht hvm hw hB hz1 hk1 hS1 => ?_)
  obtain ⟨hP2, hD2⟩ := z_after hP hD hFc isC isR isF hC hR hn.2.1 hn.2.2.2 hF hn.2.2.1 ht hk1 hB.2
  rw [hB.1]
  exact kk H1 locs1 hP2 hD2 hS1
theorem z_callSi (C : CallFix p m c cc nL s args Ts own) (hK : va_K D vwCl (zT cA) s) (hA : ∀ q, s.heap.size ≤ q → A q) (hZ : zSt G A s s.heap) (hP : va_P D vwCl ws H) (hD : va_D A ws) (hS : va_S A s.heap H locs) (isC isR isF : List Nat) (hC : isC.map (fun i => ws[i]?) = wc.map some) (hR : isR.map (fun i => ws[i]?) = wr.map some) (hF : isF.map (fun i => (wr ++ w1)[i]?) = ws'.map some) (hn : va_nd isC = true ∧ va_nd isR = true ∧ va_nd isF = true ∧ ∀ i ∈ isR, i ∉ isC) {r : Int}
    (hM : zMi l y wsM rm G D cA As wc w1 r H.size) (cw : CallB R s args own index y bytes maxL ret wsM rm 0 0 n ∧ (Cond.static y).before args s = true) (hAs : As.length = n) (hl : ls.size = nL) (hst : st = As.reverse ++ rest) (hW : (rest.map fun v => v.category).sum ≤ 8) (hcs : cells ≤ R.cells ∧ slots ≤ R.slots) (hdg : decode cc pc = .ok (.invokestatic index, 3))
    (kk : ∀ (H1 : Heap) (locs1 : List Loc), va_P D vwCl ws' H1 → va_D A ws' → va_S A s.heap H1 locs1 → W p l e R s m args below meth c H1 locs1 cells slots Q (F0 m (pc + 3) ls (.int (iZ r) :: rest))) : W p l e R s m args below meth c H locs cells slots Q (F0 m pc ls st) := by
  have hFc := va_free (wc := wc) hD hS hA isC hC
  refine va_calli (va_runS (As := As) (rest := rest) C hM cw ⟨z_blind G D cA _ wc _, z_start hK hA hZ hP hD hS isC hC hn.1 _⟩ rfl hAs hl hst (by show 2 * 0 + _ ≤ 8; omega) hdg hcs) hS (fun q _ h => hFc q h) hFc (fun r1 u t H1 locs1 ht hvm hw hB hz1 hk1 hS1 => ?_)
  obtain ⟨hP2, hD2⟩ := z_after hP hD hFc isC isR isF hC hR hn.2.1 hn.2.2.2 hF hn.2.2.1 ht hk1 hB
  rw [hw]
  exact kk H1 locs1 hP2 hD2 hS1
theorem z_callSv (C : CallFix p m c cc nL s args Ts own) (hK : va_K D vwCl (zT cA) s) (hA : ∀ q, s.heap.size ≤ q → A q) (hZ : zSt G A s s.heap) (hP : va_P D vwCl ws H) (hD : va_D A ws) (hS : va_S A s.heap H locs) (isC isR isF : List Nat) (hC : isC.map (fun i => ws[i]?) = wc.map some) (hR : isR.map (fun i => ws[i]?) = wr.map some) (hF : isF.map (fun i => (wr ++ w1)[i]?) = ws'.map some) (hn : va_nd isC = true ∧ va_nd isR = true ∧ va_nd isF = true ∧ ∀ i ∈ isR, i ∉ isC)
    (hM : zMv l y wsM rm G D cA As wc w1 H.size) (cw : CallB R s args own index y bytes maxL ret wsM rm 0 0 n ∧ (Cond.static y).before args s = true) (hAs : As.length = n) (hl : ls.size = nL) (hst : st = As.reverse ++ rest) (hW : (rest.map fun v => v.category).sum ≤ 8) (hcs : cells ≤ R.cells ∧ slots ≤ R.slots) (hdg : decode cc pc = .ok (.invokestatic index, 3))
    (kk : ∀ (H1 : Heap) (locs1 : List Loc), va_P D vwCl ws' H1 → va_D A ws' → va_S A s.heap H1 locs1 → W p l e R s m args below meth c H1 locs1 cells slots Q (F0 m (pc + 3) ls rest)) : W p l e R s m args below meth c H locs cells slots Q (F0 m pc ls st) := by
  have hFc := va_free (wc := wc) hD hS hA isC hC
  refine va_callv (va_runS (As := As) (rest := rest) C hM cw ⟨z_blind G D cA _ wc _, z_start hK hA hZ hP hD hS isC hC hn.1 _⟩ rfl hAs hl hst (by show 2 * 0 + _ ≤ 8; omega) hdg hcs) hS (fun q _ h => hFc q h) hFc (fun u t H1 locs1 ht hvm hw hB hz1 hk1 hS1 => ?_)
  obtain ⟨hP2, hD2⟩ := z_after hP hD hFc isC isR isF hC hR hn.2.1 hn.2.2.2 hF hn.2.2.1 ht hk1 hB
  exact kk H1 locs1 hP2 hD2 hS1
end ZC
