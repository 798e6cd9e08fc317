/-! A method that throws: FlickerDesk.shade. -/
section ZX
def wEx : List Cond := zAt.filter goodWord
abbrev vSh : List Cond := .code yX11_shade cX11_shade 5 (some .int) :: (wAll ++ wEx)
theorem vSh_in : ∀ w ∈ vX11_shade, w ∈ vSh := fun w h => (List.mem_cons.mp h).elim (fun e => by rw [e]; exact List.mem_cons_self) (fun h => List.mem_cons_of_mem _ (List.mem_append_left _ h))
def bEx : List Cond := [.castable nX nX, .declares (Bundle.initS "java/lang/RuntimeException"), .declares (Bundle.initS "java/lang/Exception"), .declares (Bundle.initS Bundle.tN)]
theorem wEx_bad : ∀ w ∈ zAt.filter (fun w => !goodWord w), w ∈ bEx := by decide +kernel
theorem wEx_ot : ∀ w ∈ Cond.classLink RX11 161 nX :: Cond.initialized nX :: zAt, vx_ot w = true := by decide +kernel
/-- what a throw takes of the statics -/
def zX (A : Nat → Prop) (U : State) (H : Heap) : Prop := vx_Zq Bundle.tN "UNASSIGNED_STACK" Bundle.steD A U H ∧ vx_Zq Bundle.tN "SUPPRESSED_SENTINEL" Bundle.listD A U H ∧ (∃ sa, vk_R RX11 163 "there is no such dot" sa U) ∧ va_Nw (.castable nX nX) U ∧ va_Nw (.declares (Bundle.initS "java/lang/RuntimeException")) U ∧ va_Nw (.declares (Bundle.initS "java/lang/Exception")) U ∧ va_Nw (.declares (Bundle.initS Bundle.tN)) U
theorem zX.same {A : Nat → Prop} {u U : State} {H : Heap} (hv : u.vm = U.vm) (h : zX A u H) : zX A U H := by
  have hvm : u.vm.Alike U.vm := by rw [hv]; exact Vm.Alike.refl U.vm
  obtain ⟨h1, h2, ⟨sa, h3⟩, h4, h5, h6, h7⟩ := h
  exact ⟨h1.moved hvm, h2.moved hvm, ⟨sa, vk_R.same hv.symm h3⟩, va_Nw.same rfl hv h4, va_Nw.same rfl hv h5, va_Nw.same rfl hv h6, va_Nw.same rfl hv h7⟩
theorem zX.warm {A : Nat → Prop} {u U : State} {H : Heap} (hW : u.WarmedH U.vm) (h : zX A u H) : zX A U H := by
  obtain ⟨h1, h2, ⟨sa, h3⟩, h4, h5, h6, h7⟩ := h
  exact ⟨h1.moved hW.alike, h2.moved hW.alike, ⟨sa, vk_R.warm hW h3⟩, va_Nw.warmC hW h4, va_Nw.warmD hW h5, va_Nw.warmD hW h6, va_Nw.warmD hW h7⟩
theorem zX.kept {A : Nat → Prop} {U : State} {H H1 : Heap} (h : zX A U H) (hq : ∀ a : Nat, a < H.size → ¬ A a → H1[a]? = H[a]?) : zX A U H1 := by
  obtain ⟨h1, h2, h3, h4⟩ := h
  exact ⟨h1.kept hq, h2.kept hq, h3, h4⟩
theorem zX.narrow {A B : Nat → Prop} {U : State} {H : Heap} (h : zX A U H) (hAB : ∀ q, B q → A q) : zX B U H := by
  obtain ⟨h1, h2, h3, h4⟩ := h
  exact ⟨h1.narrow hAB, h2.narrow hAB, h3, h4⟩
def zPreX (G : ZG) (D : va_G) (cA : Nat → ClassId) (wc : va_W) (sz : Nat) : State → Prop := fun U => zPre G D cA wc sz U ∧ zX (va_A wc sz) U U.heap
def zMx (l : Launch) (y : MethodName) (ws : List Cond) (rm : Room) (G : ZG) (D : va_G) (cA : Nat → ClassId) (av : List Value) (wc w1 : va_W) (thr val : Int) (sz : Nat) : Prop :=
  vx_Met l y ws rm (va_Pc av (zPreX G D cA wc sz)) (va_Qi (fun v (_ : Unit) => thr = 0 ∧ v = iZ val) (fun _ t => zB D cA w1 (va_A wc sz) t) (va_A wc sz)) (vx_X (fun (_ : Unit) => thr = 1) (fun E _ t => E = nX ∧ zB D cA w1 (va_A wc sz) t) (va_A wc sz)) 1 6 (va_A wc sz)
theorem z_throw22 {p : Program} {l : Launch} {e : Env} {R : Room} {s : State} {m : MethodId} {args : Array Value} {below : List Frame} {meth : Method} {c : Code} {H : Heap} {locs : List Loc} {ls : Array Slot} {D : va_G} {cA : Nat → ClassId} {A : Nat → Prop} {w1 : va_W} {thr : Int} {Qc : Array Value → State → Outcome → State → Prop}
    (hlt : l.stackTraces = false) (hexec : p.tables.exec = Jvm.exec) (hb : c.code = cX11_shade) (hown : s.vm.findClass RX11 = some m.cls) (hts : ∀ w ∈ vSh, w.before args s = true) (htab : ∀ x ∈ c.exceptionTable.toList, False) (hlocks : meth.locks = false) (hK : va_K D vwCl (zT cA) s) (hX : zX A s s.heap) (hP : va_P D vwCl w1 H) (hD : va_D A w1) (hS : va_S A s.heap H locs) (hsize : ls.size = c.maxLocals) (hthr : thr = 1) (hR1 : 5 < R.frames) (hR2 : 82 ≤ R.locals) (hR3 : 1 ≤ R.cells) (hR4 : 6 ≤ R.slots) :
    W p l e R s m args below meth c H locs 0 0 (vx_MQ below Qc (vx_X (fun (_ : Unit) => thr = 1) (fun E _ t => E = nX ∧ zB D cA w1 A t) A) args s 1 6 A) (F0 m 22 ls []) := by
  obtain ⟨hU, hN, ⟨sa, hstr⟩, hc1, hc2, hc3, hc4⟩ := hX
  have hq : ∀ w ∈ wAll, w.before args s = true := fun w h => hts w (List.mem_cons_of_mem _ (List.mem_append_left _ h))
  have hbx : ∀ w ∈ bEx, w.before args s = true := vx_c (va_Nw.use rfl hc1) (vx_c (va_Nw.use rfl hc2) (vx_c (va_Nw.use rfl hc3) (vx_c (va_Nw.use rfl hc4) vx_n)))
  have hat : ∀ w ∈ zAt, w.before args s = true := vx_hat (B := bEx) (fun w h => hts w (List.mem_cons_of_mem _ (List.mem_append_right _ h))) wEx_bad hbx
  refine zx_throwS (text := "there is no such dot") (ik := 161) (is := 163) (sa := sa) (A := A) hexec hb hlt hown (hq _ q610) (hq _ q611) hstr hat wEx_ot hU hN hS hsize dX11_shade_22 dX11_shade_25 dX11_shade_26 dX11_shade_28 dX11_shade_31 (fun x h => (htab x h).elim) hR1 ?_ ?_ ?_ hlocks ?_ hS.2.2 (Nat.le_of_ble_eq_true rfl) (Nat.le_of_ble_eq_true rfl)
  · exact hR2
  · exact hR3
  · exact hR4
  · intro t hvm hsz9 hk9
    exact ⟨(), hthr, ⟨rfl, hP.kept (fun k q hq => hk9 q.1 ((hP k q hq).lt)), va_K.moved hvm hK, hD⟩, Nat.le_trans hS.1 hsz9, fun q h1 h2 => (hk9 q (Nat.lt_of_lt_of_le h1 hS.1)).trans (hS.2.1 q h1 h2)⟩
end ZX
