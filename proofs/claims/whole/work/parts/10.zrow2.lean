/-! Rows for the enum's words, the Strings, the methods of String. -/
section ZS
def onceZ (i : Nat) : Int := (zOnce.getD i 0).toInt
def lenZ (i : Nat) : Int := (zLen.getD i 0 : Nat)
def bytZ (i j : Nat) : Int := ((zByt.getD i []).getD j 0).toInt
def cZ (x : Int) : Int := ((iZ x).toUInt32 % 65536).toInt32.toInt
def wrefZ (G : ZG) (w : Int) : Option Nat := if w < 0 then none else some (G.2.2.2.1 w.toNat)
theorem wrefZ_pos (G : ZG) {w : Int} (h : 0 ≤ w) : va_rf (wrefZ G w) = .ref (G.2.2.2.1 w.toNat) := by rw [wrefZ, if_neg (by omega)]; rfl
theorem wrefZ_neg (G : ZG) {w : Int} (h : w < 0) : va_rf (wrefZ G w) = .null := by rw [wrefZ, if_pos h]; rfl
theorem zch_nar {v : Int} (h : 0 ≤ v ∧ v < 65536) : narrow .char (.int (iZ v)) = .int (iZ v) := by
  have e : iZ v = nI v.toNat := by
    have : ((v.toNat : Nat) : Int) = v := Int.toNat_of_nonneg h.1
    rw [← this]; rfl
  rw [e]
  exact (pk_charN (by omega)).1
theorem zby_nar {v : Int} (h : -128 ≤ v ∧ v < 128) : narrow .byte (.int (iZ v)) = .int (iZ v) := by
  have key : ∀ n : Fin 256, narrow .byte (.int (iZ ((n.val : Int) - 128))) = .int (iZ ((n.val : Int) - 128)) := by decide +kernel
  have h2 := key ⟨(v + 128).toNat, by omega⟩
  have e : (((v + 128).toNat : Nat) : Int) - 128 = v := by omega
  rw [e] at h2
  exact h2
theorem z_zq {C n d : String} {A : Nat → Prop} {U : State} {H : Heap} (h : va_Zq C n d A U H) : ∃ o : Option Nat, va_Z C n d (va_rf o) A U H := by
  rcases h with h | ⟨t, h⟩
  · exact ⟨none, h⟩
  · exact ⟨some t, h⟩
def zMq (l : Launch) (y : MethodName) (ws : List Cond) (rm : Room) (G : ZG) (D : va_G) (cA : Nat → ClassId) (av : List Value) (wc w1 : va_W) (ra : Option Nat) (sz : Nat) : Prop :=
  Met l y ws rm (va_Pc av (zPre G D cA wc sz)) (va_Qq (fun q (_ : Unit) => q = ra) (fun _ t => zB D cA w1 (va_A wc sz) t) (va_A wc sz)) 0 0 (va_A wc sz)
variable {p : Program} {l : Launch} {e : Env} {R : Room} {s : State} {m : MethodId} {args : Array Value} {below : List Frame} {meth : Method} {c : Code} {H : Heap} {locs : List Loc} {cells slots : Nat} {Q : State → Prop} {cc : ByteArray} {pc : Nat} {ls : Array Slot} {rest : List Value}
variable {G : ZG} {D : va_G} {cA : Nat → ClassId} {A : Nat → Prop} {ws wc wr w1 ws' : va_W} {Ts wsM : List Cond} {nL n maxL index b : Nat} {own Cn : String} {y : MethodName} {rm : Room} {bytes : ByteArray} {ret : Option FieldType} {As st : List Value} {off : Int} {tgt : Nat}
theorem lv_aload_nQ (hexec : p.tables.exec = Jvm.exec) (hb : c.code = cc) {k : Fin 4} {i : Nat} {o : Option Nat} (hdg : decode cc pc = .ok (.aload_n k, 1)) (hi : (k : Nat) = i) (hl : ls[i]? = some (.val (va_rf o))) (kk : W p l e R s m args below meth c H locs cells slots Q (F0 m (pc + 1) ls (va_rf o :: rest))) : W p l e R s m args below meth c H locs cells slots Q (F0 m pc ls rest) := by
  cases o with
  | none => exact lv_aload_nN hexec hb hdg hi hl kk
  | some a => exact lv_aload_n hexec hb hdg hi hl kk
theorem z_i2c (hexec : p.tables.exec = Jvm.exec) (hb : c.code = cc) {x : Int} (hdg : decode cc pc = .ok (.i2c, 1)) (k : W p l e R s m args below meth c H locs cells slots Q (F0 m (pc + 1) ls (.int (iZ (cZ x)) :: rest))) : W p l e R s m args below meth c H locs cells slots Q (F0 m pc ls (.int (iZ x) :: rest)) := lv_i2c hexec hb hdg rfl (by rw [cZ, iZ_self] at k; exact k)
theorem z_once (hexec : p.tables.exec = Jvm.exec) (hb : c.code = cc) (hZ : zSt G A s s.heap) {i : Nat} (hi : i < 12) (hS : va_S A s.heap H locs) (hown : s.vm.findClass own = some m.cls) (hlink : (Cond.fieldLink own index "FlickerDesk$Word" "once" "I").before args s = true) (hdg : decode cc pc = .ok (.getfield index, 3))
    (kk : W p l e R s m args below meth c H locs cells slots Q (F0 m (pc + 3) ls (.int (iZ (onceZ i)) :: rest))) : W p l e R s m args below meth c H locs cells slots Q (F0 m pc ls (.ref (G.2.2.2.1 i) :: rest)) :=
  va_getE (q := ("FlickerDesk$Word", "once", "I", zOnce)) hexec hb hZ.2.1.2.2.1 hi hS hown List.mem_cons_self hlink (fun _ h => h) hdg (by rw [onceZ, iZ_self] at kk; exact kk)
theorem z_text (hexec : p.tables.exec = Jvm.exec) (hb : c.code = cc) (hZ : zSt G A s s.heap) {i : Nat} (hi : i < 12) (hS : va_S A s.heap H locs) (hown : s.vm.findClass own = some m.cls) (hlink : (Cond.fieldLink own index "FlickerDesk$Word" "text" "Ljava/lang/String;").before args s = true) (hdg : decode cc pc = .ok (.getfield index, 3))
    (kk : W p l e R s m args below meth c H locs cells slots Q (F0 m (pc + 3) ls (.ref (G.2.2.2.2.1 i) :: rest))) : W p l e R s m args below meth c H locs cells slots Q (F0 m pc ls (.ref (G.2.2.2.1 i) :: rest)) :=
  va_getX hexec hb hZ.2.1.2.2.2.1 hi hS hown hlink (fun _ h => h) hdg kk
theorem z_blen (hexec : p.tables.exec = Jvm.exec) (hb : c.code = cc) (hZ : zSt G A s s.heap) {i : Nat} (hi : i < 13) (hS : va_S A s.heap H locs) (hdg : decode cc pc = .ok (.arraylength, 1))
    (kk : W p l e R s m args below meth c H locs cells slots Q (F0 m (pc + 1) ls (.int (iZ (lenZ i)) :: rest))) : W p l e R s m args below meth c H locs cells slots Q (F0 m pc ls (.ref (G.2.2.2.2.2 i) :: rest)) :=
  va_tlen (v := iZ (lenZ i)) hexec hb (hZ.2.1.2.2.2.2.1 i hi).2.2.2 hS rfl hdg kk
theorem zLen_small : ∀ i : Fin 13, zLen.getD i.val 0 ≤ 73 := by decide
theorem z_bld (hexec : p.tables.exec = Jvm.exec) (hb : c.code = cc) (hZ : zSt G A s s.heap) {i : Nat} (hi : i < 13) (hS : va_S A s.heap H locs) {j : Int} (hg : 0 ≤ j ∧ j < lenZ i) (hdg : decode cc pc = .ok (.baload, 1))
    (kk : W p l e R s m args below meth c H locs cells slots Q (F0 m (pc + 1) ls (.int (iZ (bytZ i j.toNat)) :: rest))) : W p l e R s m args below meth c H locs cells slots Q (F0 m pc ls (.int (iZ j) :: .ref (G.2.2.2.2.2 i) :: rest)) := by
  have hn := zLen_small ⟨i, hi⟩
  dsimp only at hn
  have hg2 : j < ((zLen.getD i 0 : Nat) : Int) := hg.2
  refine va_tb (v := .int (iZ (bytZ i j.toNat))) hexec hb (hZ.2.1.2.2.2.2.1 i hi).2.2.2 hS (iZ_in (by omega) ⟨hg.1, hg2⟩) ?_ hdg kk
  rw [iZ_clamp hg.1 (by omega), bytZ, iZ_self]
theorem z_wld (hexec : p.tables.exec = Jvm.exec) (hb : c.code = cc) (hZ : zSt G A s s.heap) (hS : va_S A s.heap H locs) {j : Int} (hg : 0 ≤ j ∧ j < 12) (hdg : decode cc pc = .ok (.aaload, 1))
    (kk : W p l e R s m args below meth c H locs cells slots Q (F0 m (pc + 1) ls (.ref (G.2.2.2.1 j.toNat) :: rest))) : W p l e R s m args below meth c H locs cells slots Q (F0 m pc ls (.int (iZ j) :: .ref G.2.2.1 :: rest)) :=
  vb_tq (v := .ref (G.2.2.2.1 j.toNat)) hexec hb hZ.2.1.2.1 hS (iZ_in (n := 12) (Nat.le_of_ble_eq_true rfl) hg) (by rw [iZ_clamp hg.1 (by omega)]) hdg kk
theorem z_acmp_ne (hexec : p.tables.exec = Jvm.exec) (hb : c.code = cc) (hZ : zSt G A s s.heap) {i j : Nat} (hi : i < 12) (hj : j < 12) (hdg : decode cc pc = .ok (.if_acmp .ne off, 3)) (ht : (pc : Int) + off = (tgt : Int)) (kt : ¬ i = j → W p l e R s m args below meth c H locs cells slots Q (F0 m tgt ls rest)) (kf : i = j → W p l e R s m args below meth c H locs cells slots Q (F0 m (pc + 3) ls rest)) : W p l e R s m args below meth c H locs cells slots Q (F0 m pc ls (.ref (G.2.2.2.1 j) :: .ref (G.2.2.2.1 i) :: rest)) :=
  lv_acmp_ne (rx := some (G.2.2.2.1 i)) (ry := some (G.2.2.2.1 j)) hexec hb hdg ht (fun h => kt (fun e => h (by rw [e]))) (fun h => kf (hZ.2.1.2.2.1.2 i j hi hj (Option.some.inj h)))
theorem z_acmp_eq (hexec : p.tables.exec = Jvm.exec) (hb : c.code = cc) (hZ : zSt G A s s.heap) {i j : Nat} (hi : i < 12) (hj : j < 12) (hdg : decode cc pc = .ok (.if_acmp .eq off, 3)) (ht : (pc : Int) + off = (tgt : Int)) (kt : i = j → W p l e R s m args below meth c H locs cells slots Q (F0 m tgt ls rest)) (kf : ¬ i = j → W p l e R s m args below meth c H locs cells slots Q (F0 m (pc + 3) ls rest)) : W p l e R s m args below meth c H locs cells slots Q (F0 m pc ls (.ref (G.2.2.2.1 j) :: .ref (G.2.2.2.1 i) :: rest)) :=
  lv_acmp_eq (rx := some (G.2.2.2.1 i)) (ry := some (G.2.2.2.1 j)) hexec hb hdg ht (fun h => kt (hZ.2.1.2.2.1.2 i j hi hj (Option.some.inj h))) (fun h => kf (fun e => h (by rw [e])))
theorem z_callVq (C : CallFix p m c cc nL s args Ts own) (hK : va_K D vwCl (zT cA) s) (hA : ∀ q, s.heap.size ≤ q → A q) (hZ : zSt G A s s.heap) (hP : va_P D vwCl ws H) (hD : va_D A ws) (hS : va_S A s.heap H locs) (isC isR isF : List Nat) (hC : isC.map (fun i => ws[i]?) = wc.map some) (hR : isR.map (fun i => ws[i]?) = wr.map some) (hF : isF.map (fun i => (wr ++ w1)[i]?) = ws'.map some) (hn : va_nd isC = true ∧ va_nd isR = true ∧ va_nd isF = true ∧ ∀ i ∈ isR, i ∉ isC) {r : Option Nat}
    (hM : zMq l y wsM rm G D cA (.ref b :: As) wc w1 r H.size) (cw : CallW R s args own Cn index y bytes maxL ret wsM rm 0 0 n) (q0 ci : Nat) {q : vw_C} {fs : List Value} (he : ws[q0]? = some (b, .inr (ci, fs))) (hc : vwCl[ci]? = some q) (hq : q.1 = Cn) (hAs : As.length = n) (hl : ls.size = nL) (hst : st = As.reverse ++ .ref b :: rest) (hW : (rest.map fun v => v.category).sum ≤ 8) (hcs : cells ≤ R.cells ∧ slots ≤ R.slots) (hdg : decode cc pc = .ok (.invokevirtual index, 3))
    (kk : ∀ (H1 : Heap) (locs1 : List Loc), va_P D vwCl ws' H1 → va_D A ws' → va_S A s.heap H1 locs1 → W p l e R s m args below meth c H1 locs1 cells slots Q (F0 m (pc + 3) ls (va_rf r :: rest))) : W p l e R s m args below meth c H locs cells slots Q (F0 m pc ls st) := by
  have hFc := va_free (wc := wc) hD hS hA isC hC
  have hrc := va_recv hK hP (ci := ci) (q0 := q0) hc he
  rw [hq] at hrc
  refine va_callq (va_runV (As := As) (rest := rest) C hM cw ⟨z_blind G D cA _ wc _, hrc, z_start hK hA hZ hP hD hS isC hC hn.1 _⟩ rfl hAs hl hst (by show 2 * 0 + _ ≤ 8; omega) hdg hcs) hS (fun q _ h => hFc q h) hFc (fun r1 u t H1 locs1 ht hvm hw hB hz1 hk1 hS1 => ?_)
  obtain ⟨hP2, hD2⟩ := z_after hP hD hFc isC isR isF hC hR hn.2.1 hn.2.2.2 hF hn.2.2.1 ht hk1 hB
  rw [hw]
  exact kk H1 locs1 hP2 hD2 hS1
theorem z_callUi (C : CallFix p m c cc nL s args Ts own) (hK : va_K D vwCl (zT cA) s) (hA : ∀ q, s.heap.size ≤ q → A q) (hZ : zSt G A s s.heap) (hP : va_P D vwCl ws H) (hD : va_D A ws) (hS : va_S A s.heap H locs) (isC isR isF : List Nat) (hC : isC.map (fun i => ws[i]?) = wc.map some) (hR : isR.map (fun i => ws[i]?) = wr.map some) (hF : isF.map (fun i => (wr ++ w1)[i]?) = ws'.map some) (hn : va_nd isC = true ∧ va_nd isR = true ∧ va_nd isF = true ∧ ∀ i ∈ isR, i ∉ isC) {r : Int}
    (hM : zMi l y wsM rm G D cA (.ref b :: As) wc w1 r H.size) (cw : CallW R s args own Cn index y bytes maxL ret wsM rm 0 0 n) (hrc : ∃ cell : Cell, H[b]? = some cell ∧ cell.vm.isStatics = false ∧ s.vm.findClass Cn = some cell.cls) (hAs : As.length = n) (hl : ls.size = nL) (hst : st = As.reverse ++ .ref b :: rest) (hW : (rest.map fun v => v.category).sum ≤ 8) (hcs : cells ≤ R.cells ∧ slots ≤ R.slots) (hdg : decode cc pc = .ok (.invokevirtual index, 3))
    (kk : ∀ (H1 : Heap) (locs1 : List Loc), va_P D vwCl ws' H1 → va_D A ws' → va_S A s.heap H1 locs1 → W p l e R s m args below meth c H1 locs1 cells slots Q (F0 m (pc + 3) ls (.int (iZ r) :: rest))) : W p l e R s m args below meth c H locs cells slots Q (F0 m pc ls st) := by
  have hFc := va_free (wc := wc) hD hS hA isC hC
  refine va_calli (va_runV (As := As) (rest := rest) C hM cw ⟨z_blind G D cA _ wc _, hrc, z_start hK hA hZ hP hD hS isC hC hn.1 _⟩ rfl hAs hl hst (by show 2 * 0 + _ ≤ 8; omega) hdg hcs) hS (fun q _ h => hFc q h) hFc (fun r1 u t H1 locs1 ht hvm hw hB hz1 hk1 hS1 => ?_)
  obtain ⟨hP2, hD2⟩ := z_after hP hD hFc isC isR isF hC hR hn.2.1 hn.2.2.2 hF hn.2.2.1 ht hk1 hB
  rw [hw]
  exact kk H1 locs1 hP2 hD2 hS1
end ZS
