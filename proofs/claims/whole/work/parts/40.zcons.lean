/-! Constructors: rows that make cells, the form of their contracts. -/
section ZN
/-- links of private constructors to nest mates, the class of the films' row -/
def zNc (U : State) : Prop :=
  va_Nw (.methodLinkNest RX1 11 yX9_init "FlickerDesk") U ∧ va_Nw (.methodLinkNest RX1 23 yX8_init "FlickerDesk") U ∧ va_Nw (.methodLinkNest RX1 30 yX6_init "FlickerDesk") U ∧
  va_Nw (.methodLinkNest RX11 18 yX1_init "FlickerDesk") U ∧ va_Nw (.methodLinkNest RX11 25 yX7_init "FlickerDesk") U ∧ va_Nw (.methodLinkNest RX11 45 yX5_init "FlickerDesk") U ∧
  va_Nw (.methodLinkNest RX11 52 yX3_init "FlickerDesk") U ∧ va_Nw (.methodLinkNest RX11 59 yX4_init "FlickerDesk") U ∧ va_AO "FlickerDesk$Film" U
theorem zNc.same {u U : State} (hv : u.vm = U.vm) (h : zNc u) : zNc U := by
  obtain ⟨h1, h2, h3, h4, h5, h6, h7, h8, h9⟩ := h
  exact ⟨h1.same rfl hv, h2.same rfl hv, h3.same rfl hv, h4.same rfl hv, h5.same rfl hv, h6.same rfl hv, h7.same rfl hv, h8.same rfl hv, h9.moved (by rw [hv]; exact Vm.Alike.refl U.vm)⟩
theorem zNc.warm {u U : State} (hW : u.WarmedH U.vm) (h : zNc u) : zNc U := by
  obtain ⟨h1, h2, h3, h4, h5, h6, h7, h8, h9⟩ := h
  exact ⟨va_Nw.warmM hW h1, va_Nw.warmM hW h2, va_Nw.warmM hW h3, va_Nw.warmM hW h4, va_Nw.warmM hW h5, va_Nw.warmM hW h6, va_Nw.warmM hW h7, va_Nw.warmM hW h8, h9.moved hW.alike⟩
theorem zP_row {D : va_G} {A : Nat → Prop} {ws : va_W} {H : Heap} {a n : Nat} {cB : ClassId} {f g : Nat → Option Nat} (hP : va_P D vwCl ws H) (hD : va_D A ws) (k : Nat) (hk : ws[k]? = some (a, .inl (cB, n, .inr (.inr (.inr (.inr f)))))) (hfg : ∀ i, i < n → f i = g i) : va_P D vwCl (ws.set k (a, .inl (cB, n, .inr (.inr (.inr (.inr g)))))) H := by
  refine hP.set hD hk ?_ (fun _ _ => rfl)
  have h1 : H[a]? = some (vp_cell cB (n, .inr (.inr (.inr (.inr f))))) := hP k _ hk
  show H[a]? = some (vp_cell cB (n, .inr (.inr (.inr (.inr g)))))
  rw [h1, vp_cell_q, vp_cell_q]
  have e1 : arrV cB n (fun j => va_rf (f j)) = arrV cB n (fun j => va_rf (g j)) := by
    unfold arrV
    congr 1
    apply Array.ext
    · simp
    · intro i h1 h2
      simp only [Array.getElem_ofFn]
      rw [hfg i (by simpa using h1)]
  rw [e1]
theorem zD_row {A : Nat → Prop} {ws : va_W} {a n : Nat} {cB : ClassId} {f g : Nat → Option Nat} (hD : va_D A ws) (k : Nat) (hk : ws[k]? = some (a, .inl (cB, n, .inr (.inr (.inr (.inr f)))))) : va_D A (ws.set k (a, .inl (cB, n, .inr (.inr (.inr (.inr g)))))) := hD.set hk
def zPreC (G : ZG) (D : va_G) (cA : Nat → ClassId) (wc : va_W) (sz : Nat) : State → Prop := fun U => zPre G D cA wc sz U ∧ zNc U
def zMc (l : Launch) (y : MethodName) (ws : List Cond) (rm : Room) (G : ZG) (D : va_G) (cA : Nat → ClassId) (h : Nat) (wc : va_W) (w1 : (Nat → Nat) → va_W) (mc ms sz : Nat) : Prop :=
  Met l y ws rm (va_Pc [.ref h] (zPreC G D cA wc sz)) (va_Qv (fun (_ : Nat → Nat) => True) (fun u t => zB D cA (w1 u) (va_A wc sz) t) (va_A wc sz)) mc ms (va_A wc sz)
theorem z_blindC (G : ZG) (D : va_G) (cA : Nat → ClassId) (av : List Value) (wc : va_W) (sz : Nat) : FrameBlind (va_Pc av (zPreC G D cA wc sz)) := fun a U g mk q => by
  obtain ⟨q0, ⟨q1, qP, qK, qD, qZ⟩, qN⟩ := q
  exact ⟨q0, ⟨q1, qP, va_K.moved (u := U) (U := U.calling g mk a) (Vm.Alike.refl U.vm) qK, qD, zSt.same (u := U) (U := U.calling g mk a) rfl qZ⟩, zNc.same (u := U) (U := U.calling g mk a) rfl qN⟩
variable {p : Program} {l : Launch} {e : Env} {R : Room} {s : State} {m : MethodId} {args : Array Value} {below : List Frame} {meth : Method} {c : Code} {H : Heap} {locs : List Loc} {cells slots : Nat} {Q : State → Prop} {cc : ByteArray} {pc : Nat} {ls : Array Slot} {rest : List Value}
variable {G : ZG} {D : va_G} {cA : Nat → ClassId} {A : Nat → Prop} {ws wc wr ws' : va_W} {w1 : (Nat → Nat) → va_W} {Ts wsM : List Cond} {nL n maxL index b a : Nat} {own : String} {y : MethodName} {rm : Room} {bytes : ByteArray} {st : List Value} {H0 : Heap}
theorem zK_one (hK : va_K D vwCl (zT cA) s) {t : Nat} {cB : ClassId} {ty : FieldType} (ht : (zT cA)[t]? = some (cB, ty)) {cN : ClassId} {ty2 : FieldType} (hty : ty2 = ty) (hp : refKind ty = false) (hK2 : va_K D vwCl (zT cA ++ [(cN, ty2)]) s) : cN = cB := by
  subst hty
  have h1 := (hK.2 t _ ht).2
  have h2 := (hK2.2 (zT cA).length (cN, ty2) (by rw [List.getElem?_append_right (Nat.le_refl _), Nat.sub_self]; rfl)).2
  cases ty2 with
  | object C => cases hp
  | array t => cases hp
  | _ => exact Option.some.inj (h2.symm.trans h1)
theorem z_newI (hexec : p.tables.exec = Jvm.exec) (hb : c.code = cc) (harr : (Cond.arrayClass .int).before args s = true) (hK : va_K D vwCl (zT cA) s) (hP : va_P D vwCl ws H) (hD : va_D A ws) (hS : va_S A H0 H locs) (hA : ∀ q, H0.size ≤ q → A q) {n : Int} {N' : Nat} (hn : ¬ iZ n < 0) (hN : (iZ n).toNatClampNeg = N') (hbytes : N' * componentBytes .int ≤ 536870912) (hcells : cells + 1 ≤ R.cells) (hslots : slots + N' ≤ R.slots) (hdg : decode cc pc = .ok (.newarray .int, 2))
    (kk : ∀ (q : Nat) (H1 : Heap), va_P D vwCl (ws ++ [(q, zA (cA 0) N' (fun _ => 0))]) H1 → va_D A (ws ++ [(q, zA (cA 0) N' (fun _ => 0))]) → va_S A H0 H1 locs → W p l e R s m args below meth c H1 locs (cells + 1) (slots + N') Q (F0 m (pc + 2) ls (.ref q :: rest))) : W p l e R s m args below meth c H locs cells slots Q (F0 m pc ls (.int (iZ n) :: rest)) := by
  refine va_newa (atype := .int) (ty := .int) (a0 := (N', .inl (fun _ => iZ 0))) hexec hb harr rfl hK hP hD hS hA (fun _ => rfl) hn hN hbytes hcells hslots hdg (fun q cN H1 hK2 hP2 hD2 hS2 => ?_)
  have e1 : cN = cA 0 := zK_one hK (t := 0) rfl rfl rfl hK2
  subst e1
  exact kk q H1 hP2 hD2 hS2
theorem z_newB (hexec : p.tables.exec = Jvm.exec) (hb : c.code = cc) (harr : (Cond.arrayClass .byte).before args s = true) (hK : va_K D vwCl (zT cA) s) (hP : va_P D vwCl ws H) (hD : va_D A ws) (hS : va_S A H0 H locs) (hA : ∀ q, H0.size ≤ q → A q) {n : Int} {N' : Nat} (hn : ¬ iZ n < 0) (hN : (iZ n).toNatClampNeg = N') (hbytes : N' * componentBytes .byte ≤ 536870912) (hcells : cells + 1 ≤ R.cells) (hslots : slots + N' ≤ R.slots) (hdg : decode cc pc = .ok (.newarray .byte, 2))
    (kk : ∀ (q : Nat) (H1 : Heap), va_P D vwCl (ws ++ [(q, zA (cA 1) N' (fun _ => 0))]) H1 → va_D A (ws ++ [(q, zA (cA 1) N' (fun _ => 0))]) → va_S A H0 H1 locs → W p l e R s m args below meth c H1 locs (cells + 1) (slots + N') Q (F0 m (pc + 2) ls (.ref q :: rest))) : W p l e R s m args below meth c H locs cells slots Q (F0 m pc ls (.int (iZ n) :: rest)) := by
  refine va_newa (atype := .byte) (ty := .byte) (a0 := (N', .inl (fun _ => iZ 0))) hexec hb harr rfl hK hP hD hS hA (fun _ => rfl) hn hN hbytes hcells hslots hdg (fun q cN H1 hK2 hP2 hD2 hS2 => ?_)
  have e1 : cN = cA 1 := zK_one hK (t := 1) rfl rfl rfl hK2
  subst e1
  exact kk q H1 hP2 hD2 hS2
theorem z_newZ (hexec : p.tables.exec = Jvm.exec) (hb : c.code = cc) (harr : (Cond.arrayClass .boolean).before args s = true) (hK : va_K D vwCl (zT cA) s) (hP : va_P D vwCl ws H) (hD : va_D A ws) (hS : va_S A H0 H locs) (hA : ∀ q, H0.size ≤ q → A q) {n : Int} {N' : Nat} (hn : ¬ iZ n < 0) (hN : (iZ n).toNatClampNeg = N') (hbytes : N' * componentBytes .boolean ≤ 536870912) (hcells : cells + 1 ≤ R.cells) (hslots : slots + N' ≤ R.slots) (hdg : decode cc pc = .ok (.newarray .boolean, 2))
    (kk : ∀ (q : Nat) (H1 : Heap), va_P D vwCl (ws ++ [(q, zA (cA 2) N' (fun _ => 0))]) H1 → va_D A (ws ++ [(q, zA (cA 2) N' (fun _ => 0))]) → va_S A H0 H1 locs → W p l e R s m args below meth c H1 locs (cells + 1) (slots + N') Q (F0 m (pc + 2) ls (.ref q :: rest))) : W p l e R s m args below meth c H locs cells slots Q (F0 m pc ls (.int (iZ n) :: rest)) := by
  refine va_newa (atype := .boolean) (ty := .boolean) (a0 := (N', .inl (fun _ => iZ 0))) hexec hb harr rfl hK hP hD hS hA (fun _ => rfl) hn hN hbytes hcells hslots hdg (fun q cN H1 hK2 hP2 hD2 hS2 => ?_)
  have e1 : cN = cA 2 := zK_one hK (t := 2) rfl rfl rfl hK2
  subst e1
  exact kk q H1 hP2 hD2 hS2
theorem z_newF (hexec : p.tables.exec = Jvm.exec) (hb : c.code = cc) (hown : s.vm.findClass own = some m.cls) (hclink : (Cond.classLink own index "FlickerDesk$Film").before args s = true) (hover : va_AO "FlickerDesk$Film" s) (hK : va_K D vwCl (zT cA) s) (hP : va_P D vwCl ws H) (hD : va_D A ws) (hS : va_S A H0 H locs) (hA : ∀ q, H0.size ≤ q → A q) {n : Int} {N' : Nat} (hn : ¬ iZ n < 0) (hN : (iZ n).toNatClampNeg = N') (hbytes : N' * 4 ≤ 536870912) (hcells : cells + 1 ≤ R.cells) (hslots : slots + N' ≤ R.slots) (hdg : decode cc pc = .ok (.anewarray index, 3))
    (kk : ∀ (q : Nat) (H1 : Heap), va_P D vwCl (ws ++ [(q, .inl (cA 3, N', .inr (.inr (.inr (.inr (fun _ => none))))))]) H1 → va_D A (ws ++ [(q, .inl (cA 3, N', .inr (.inr (.inr (.inr (fun _ => none))))))]) → va_S A H0 H1 locs → W p l e R s m args below meth c H1 locs (cells + 1) (slots + N') Q (F0 m (pc + 3) ls (.ref q :: rest))) : W p l e R s m args below meth c H locs cells slots Q (F0 m pc ls (.int (iZ n) :: rest)) := by
  refine va_newq hexec hb hown hclink hover hK hP hD hS hA hn hN hbytes hcells hslots hdg (fun q cN H1 hK2 hP2 hD2 hS2 => ?_)
  have e1 : cN = cA 3 := by
    obtain ⟨kA, comp, -, -, -, h1⟩ := (hK.2 3 _ rfl).2
    obtain ⟨kA2, comp2, -, -, -, h2⟩ := (hK2.2 5 (cN, .object "FlickerDesk$Film") rfl).2
    exact Option.some.inj (h2.symm.trans h1)
  subst e1
  exact kk q H1 hP2 hD2 hS2
theorem z_putF (hexec : p.tables.exec = Jvm.exec) (hb : c.code = cc) {own ref C : String} {T : u_T} {N ci index : Nat} {Ts : List Cond} (hts : ∀ w ∈ Ts, w.before args s = true) (hin : ∀ w ∈ u_ws C T N, w ∈ Ts) (ty0 : Nat → FieldType) (hty : ∀ k, k < N → parseFieldDescriptor (T k).2.2.1 = some (ty0 k)) (hnm : ∀ a, a < N → ∀ b, b < N → a ≠ b → (T a).2.1 ≠ (T b).2.1) (hown : s.vm.findClass own = some m.cls) {tys : List (ClassId × FieldType)} (hK : va_K D vwCl tys s) (hP : va_P D vwCl ws H) (hD : va_D A ws) (hS0 : va_S A H0 H locs) (q0 : Nat) {fs : List Value} (he : ws[q0]? = some (a, .inr (ci, fs))) (hc : vwCl[ci]? = some (C, T, N)) (k : Nat) (hk : k < N) (hlink : (Cond.fieldLink own index ref (T k).2.1 (T k).2.2.1).before args s = true) (hsame : ∀ x, s.fieldFound? (T k).1 (T k).2.1 (T k).2.2.1 = some x → s.fieldFound? ref (T k).2.1 (T k).2.2.1 = some x) (hfin : (T k).2.2.2 = true) (hin2 : meth.name = "<init>") (hdecl : (T k).1 = own) {ty : FieldType} {v : Value} (hd : parseFieldDescriptor (T k).2.2.1 = some ty) (hn : narrow ty v = v) (hfit : fits ty v = true) (hl : k < fs.length) (hw : ws.set q0 (a, .inr (ci, fs.set k v)) = ws')
    (hdg : decode cc pc = .ok (.putfield index, 3)) (kk : ∀ (H1 : Heap) (locs1 : List Loc), va_P D vwCl ws' H1 → va_D A ws' → va_S A H0 H1 locs1 → W p l e R s m args below meth c H1 locs1 cells slots Q (F0 m (pc + 3) ls rest)) : W p l e R s m args below meth c H locs cells slots Q (F0 m pc ls (v :: .ref a :: rest)) :=
  va_putF hexec hb hts hin ty0 hty hnm hown hK hP hD hS0 q0 he hc k hk hlink hsame hfin hin2 hdecl hd hn hfit hl hdg (by rw [hw]; exact kk)
theorem z_startC (hK : va_K D vwCl (zT cA) s) (hA : ∀ q, s.heap.size ≤ q → A q) (hZ : zSt G A s s.heap) (hN : zNc s) (hP : va_P D vwCl ws H) (hD : va_D A ws) (hS : va_S A s.heap H locs) (isC : List Nat) (hC : isC.map (fun i => ws[i]?) = wc.map some) (hnC : va_nd isC = true) (av : List Value) : ∀ U : State, U.heap = H → s.WarmedH U.vm → va_Pc av (zPreC G D cA wc H.size) av.toArray U :=
  fun U hU hW => ⟨rfl, (z_start hK hA hZ hP hD hS isC hC hnC av U hU hW).2, hN.warm hW⟩
theorem z_callCI (C : CallFix p m c cc nL s args Ts own) (hK : va_K D vwCl (zT cA) s) (hA : ∀ q, s.heap.size ≤ q → A q) (hZ : zSt G A s s.heap) (hN : zNc s) (hP : va_P D vwCl ws H) (hD : va_D A ws) (hS : va_S A s.heap H locs) (isC isR : List Nat) (hC : isC.map (fun i => ws[i]?) = wc.map some) (hR : isR.map (fun i => ws[i]?) = wr.map some) (hn : va_nd isC = true ∧ va_nd isR = true ∧ ∀ i ∈ isR, i ∉ isC) {mc ms : Nat}
    (hM : zMc l y wsM rm G D cA b wc w1 mc ms H.size) (cw : CallB R s args own index y bytes maxL none wsM rm mc ms 0 ∧ y.name = "<init>" ∧ (Cond.instanceMethod y).before args s = true) (hl : ls.size = nL) (hst : st = .ref b :: rest) (hW : (rest.map fun v => v.category).sum ≤ 8) (hcs : cells + mc ≤ R.cells ∧ slots + ms ≤ R.slots) (hdg : decode cc pc = .ok (.invokespecial index, 3))
    (kk : ∀ (u : Nat → Nat) (H1 : Heap) (locs1 : List Loc), va_P D vwCl (wr ++ w1 u) H1 → va_D A (wr ++ w1 u) → va_S A s.heap H1 locs1 → W p l e R s m args below meth c H1 locs1 (cells + mc) (slots + ms) Q (F0 m (pc + 3) ls rest)) : W p l e R s m args below meth c H locs cells slots Q (F0 m pc ls st) := by
  have hFc := va_free (wc := wc) hD hS hA isC hC
  refine va_callv (va_runI (As := []) (rest := rest) C hM cw ⟨z_blindC G D cA _ wc _, z_startC hK hA hZ hN hP hD hS isC hC hn.1 _⟩ rfl rfl hl hst (by show 2 * 0 + _ ≤ 8; omega) hdg hcs) hS (fun q _ h => hFc q h) hFc (fun u t H1 locs1 ht hvm hw hB hz1 hk1 hS1 => ?_)
  obtain ⟨hP1, -, hD1⟩ := hB
  rw [ht] at hP1
  obtain ⟨hP2, hD2⟩ := va_join (wr := wr) (w1 := w1 u) hP hD isC isR hC hR hn.2.1 hn.2.2 hk1 hFc hP1 hD1
  exact kk u H1 locs1 hP2 hD2 hS1
theorem z_callCN (C : CallFix p m c cc nL s args Ts own) (hK : va_K D vwCl (zT cA) s) (hA : ∀ q, s.heap.size ≤ q → A q) (hZ : zSt G A s s.heap) (hN : zNc s) (hP : va_P D vwCl ws H) (hD : va_D A ws) (hS : va_S A s.heap H locs) (isC isR : List Nat) (hC : isC.map (fun i => ws[i]?) = wc.map some) (hR : isR.map (fun i => ws[i]?) = wr.map some) (hn : va_nd isC = true ∧ va_nd isR = true ∧ ∀ i ∈ isR, i ∉ isC) {mc ms : Nat} {host : String}
    (hM : zMc l y wsM rm G D cA b wc w1 mc ms H.size) (cw : va_CN R s args own index y host bytes maxL none wsM rm mc ms 0 ∧ y.name = "<init>" ∧ (Cond.instanceMethod y).before args s = true) (hl : ls.size = nL) (hst : st = .ref b :: rest) (hW : (rest.map fun v => v.category).sum ≤ 8) (hcs : cells + mc ≤ R.cells ∧ slots + ms ≤ R.slots) (hdg : decode cc pc = .ok (.invokespecial index, 3))
    (kk : ∀ (u : Nat → Nat) (H1 : Heap) (locs1 : List Loc), va_P D vwCl (wr ++ w1 u) H1 → va_D A (wr ++ w1 u) → va_S A s.heap H1 locs1 → W p l e R s m args below meth c H1 locs1 (cells + mc) (slots + ms) Q (F0 m (pc + 3) ls rest)) : W p l e R s m args below meth c H locs cells slots Q (F0 m pc ls st) := by
  have hFc := va_free (wc := wc) hD hS hA isC hC
  refine va_callv (va_runIN (As := []) (rest := rest) C hM cw ⟨z_blindC G D cA _ wc _, z_startC hK hA hZ hN hP hD hS isC hC hn.1 _⟩ rfl rfl hl hst (by show 2 * 0 + _ ≤ 8; omega) hdg hcs) hS (fun q _ h => hFc q h) hFc (fun u t H1 locs1 ht hvm hw hB hz1 hk1 hS1 => ?_)
  obtain ⟨hP1, -, hD1⟩ := hB
  rw [ht] at hP1
  obtain ⟨hP2, hD2⟩ := va_join (wr := wr) (w1 := w1 u) hP hD isC isR hC hR hn.2.1 hn.2.2 hk1 hFc hP1 hD1
  exact kk u H1 locs1 hP2 hD2 hS1
end ZN
