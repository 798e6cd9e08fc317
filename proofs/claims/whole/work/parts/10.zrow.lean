/-! Rows of the kit said of iZ: branches, fields, copies, Math, switches. -/
section ZR
def mxZ (x y : Int) : Int := if iZ x < iZ y then y else x
def mnZ (x y : Int) : Int := if iZ y < iZ x then y else x
def abZ (x : Int) : Int := if iZ x < iZ 0 then 0 - x else x
def cpZ (f g : Nat → Int) (sp dp n : Nat) : Nat → Int := fun k => if dp ≤ k ∧ k < dp + n then f (sp + (k - dp)) else g k
theorem cpZ_cpy (f g : Nat → Int) (sp dp n : Nat) : va_cpy (fun j => iZ (f j)) (fun j => iZ (g j)) sp dp n = fun j => iZ (cpZ f g sp dp n j) := by
  funext k
  unfold va_cpy cpZ
  by_cases h : dp ≤ k ∧ k < dp + n
  · rw [if_pos h, if_pos h]
  · rw [if_neg h, if_neg h]
theorem zb_nar {v : Int} (h : v = 0 ∨ v = 1) : narrow .boolean (.int (iZ v)) = .int (iZ v) := by
  rcases h with rfl | rfl <;> decide
theorem iZ_nlt {x : Int} (h : ¬ iZ x < iZ 0) : 0 ≤ iZ x := by
  have h1 : ¬ (iZ x).toInt < (iZ 0).toInt := fun z => h (Int32.lt_iff_toInt_lt.mpr z)
  have h2 : (iZ 0).toInt = (0 : Int32).toInt := by decide
  exact Int32.le_iff_toInt_le.mpr (by omega)
variable {p : Program} {l : Launch} {e : Env} {R : Room} {s : State} {m : MethodId} {args : Array Value} {below : List Frame} {meth : Method} {c : Code} {H : Heap} {locs : List Loc} {cells slots : Nat} {Q : State → Prop} {cc : ByteArray} {pc : Nat} {ls : Array Slot} {rest : List Value}
variable {x y : Int} {off : Int} {tgt : Nat}
theorem z_le (a b : Int) : iZ b ≤ iZ a ↔ ¬ iZ a < iZ b := by
  rw [Int32.le_iff_toInt_le, Int32.lt_iff_toInt_lt]
  omega
theorem z_icmp_eq (hexec : p.tables.exec = Jvm.exec) (hb : c.code = cc) (hdg : decode cc pc = .ok (.if_icmp .eq off, 3)) (ht : (pc : Int) + off = (tgt : Int)) (kt : iZ x = iZ y → W p l e R s m args below meth c H locs cells slots Q (F0 m tgt ls rest)) (kf : ¬ iZ x = iZ y → W p l e R s m args below meth c H locs cells slots Q (F0 m (pc + 3) ls rest)) : W p l e R s m args below meth c H locs cells slots Q (F0 m pc ls (.int (iZ y) :: .int (iZ x) :: rest)) := lv_icmp_eq hexec hb hdg ht kt kf
theorem z_icmp_ne (hexec : p.tables.exec = Jvm.exec) (hb : c.code = cc) (hdg : decode cc pc = .ok (.if_icmp .ne off, 3)) (ht : (pc : Int) + off = (tgt : Int)) (kt : ¬ iZ x = iZ y → W p l e R s m args below meth c H locs cells slots Q (F0 m tgt ls rest)) (kf : iZ x = iZ y → W p l e R s m args below meth c H locs cells slots Q (F0 m (pc + 3) ls rest)) : W p l e R s m args below meth c H locs cells slots Q (F0 m pc ls (.int (iZ y) :: .int (iZ x) :: rest)) := lv_icmp_ne hexec hb hdg ht (fun h => kt h) (fun h => kf (by first | exact h | exact Classical.not_not.mp h))
theorem z_icmp_lt (hexec : p.tables.exec = Jvm.exec) (hb : c.code = cc) (hdg : decode cc pc = .ok (.if_icmp .lt off, 3)) (ht : (pc : Int) + off = (tgt : Int)) (kt : iZ x < iZ y → W p l e R s m args below meth c H locs cells slots Q (F0 m tgt ls rest)) (kf : ¬ iZ x < iZ y → W p l e R s m args below meth c H locs cells slots Q (F0 m (pc + 3) ls rest)) : W p l e R s m args below meth c H locs cells slots Q (F0 m pc ls (.int (iZ y) :: .int (iZ x) :: rest)) := lv_icmp_lt hexec hb hdg ht kt kf
theorem z_icmp_ge (hexec : p.tables.exec = Jvm.exec) (hb : c.code = cc) (hdg : decode cc pc = .ok (.if_icmp .ge off, 3)) (ht : (pc : Int) + off = (tgt : Int)) (kt : ¬ iZ x < iZ y → W p l e R s m args below meth c H locs cells slots Q (F0 m tgt ls rest)) (kf : iZ x < iZ y → W p l e R s m args below meth c H locs cells slots Q (F0 m (pc + 3) ls rest)) : W p l e R s m args below meth c H locs cells slots Q (F0 m pc ls (.int (iZ y) :: .int (iZ x) :: rest)) := lv_icmp_ge hexec hb hdg ht (fun h => kt ((z_le _ _).mp h)) (fun h => kf (Classical.not_not.mp (fun z => h ((z_le _ _).mpr z))))
theorem z_icmp_gt (hexec : p.tables.exec = Jvm.exec) (hb : c.code = cc) (hdg : decode cc pc = .ok (.if_icmp .gt off, 3)) (ht : (pc : Int) + off = (tgt : Int)) (kt : iZ y < iZ x → W p l e R s m args below meth c H locs cells slots Q (F0 m tgt ls rest)) (kf : ¬ iZ y < iZ x → W p l e R s m args below meth c H locs cells slots Q (F0 m (pc + 3) ls rest)) : W p l e R s m args below meth c H locs cells slots Q (F0 m pc ls (.int (iZ y) :: .int (iZ x) :: rest)) := lv_icmp_gt hexec hb hdg ht kt kf
theorem z_icmp_le (hexec : p.tables.exec = Jvm.exec) (hb : c.code = cc) (hdg : decode cc pc = .ok (.if_icmp .le off, 3)) (ht : (pc : Int) + off = (tgt : Int)) (kt : ¬ iZ y < iZ x → W p l e R s m args below meth c H locs cells slots Q (F0 m tgt ls rest)) (kf : iZ y < iZ x → W p l e R s m args below meth c H locs cells slots Q (F0 m (pc + 3) ls rest)) : W p l e R s m args below meth c H locs cells slots Q (F0 m pc ls (.int (iZ y) :: .int (iZ x) :: rest)) := lv_icmp_le hexec hb hdg ht (fun h => kt ((z_le _ _).mp h)) (fun h => kf (Classical.not_not.mp (fun z => h ((z_le _ _).mpr z))))
theorem z_if_eq (hexec : p.tables.exec = Jvm.exec) (hb : c.code = cc) (hdg : decode cc pc = .ok (.ifCond .eq off, 3)) (ht : (pc : Int) + off = (tgt : Int)) (kt : iZ x = iZ 0 → W p l e R s m args below meth c H locs cells slots Q (F0 m tgt ls rest)) (kf : ¬ iZ x = iZ 0 → W p l e R s m args below meth c H locs cells slots Q (F0 m (pc + 3) ls rest)) : W p l e R s m args below meth c H locs cells slots Q (F0 m pc ls (.int (iZ x) :: rest)) := lv_if_eq hexec hb hdg ht kt kf
theorem z_if_ne (hexec : p.tables.exec = Jvm.exec) (hb : c.code = cc) (hdg : decode cc pc = .ok (.ifCond .ne off, 3)) (ht : (pc : Int) + off = (tgt : Int)) (kt : ¬ iZ x = iZ 0 → W p l e R s m args below meth c H locs cells slots Q (F0 m tgt ls rest)) (kf : iZ x = iZ 0 → W p l e R s m args below meth c H locs cells slots Q (F0 m (pc + 3) ls rest)) : W p l e R s m args below meth c H locs cells slots Q (F0 m pc ls (.int (iZ x) :: rest)) := lv_if_ne hexec hb hdg ht (fun h => kt h) (fun h => kf (by first | exact h | exact Classical.not_not.mp h))
theorem z_if_lt (hexec : p.tables.exec = Jvm.exec) (hb : c.code = cc) (hdg : decode cc pc = .ok (.ifCond .lt off, 3)) (ht : (pc : Int) + off = (tgt : Int)) (kt : iZ x < iZ 0 → W p l e R s m args below meth c H locs cells slots Q (F0 m tgt ls rest)) (kf : ¬ iZ x < iZ 0 → W p l e R s m args below meth c H locs cells slots Q (F0 m (pc + 3) ls rest)) : W p l e R s m args below meth c H locs cells slots Q (F0 m pc ls (.int (iZ x) :: rest)) := lv_if_lt hexec hb hdg ht kt kf
theorem z_if_ge (hexec : p.tables.exec = Jvm.exec) (hb : c.code = cc) (hdg : decode cc pc = .ok (.ifCond .ge off, 3)) (ht : (pc : Int) + off = (tgt : Int)) (kt : ¬ iZ x < iZ 0 → W p l e R s m args below meth c H locs cells slots Q (F0 m tgt ls rest)) (kf : iZ x < iZ 0 → W p l e R s m args below meth c H locs cells slots Q (F0 m (pc + 3) ls rest)) : W p l e R s m args below meth c H locs cells slots Q (F0 m pc ls (.int (iZ x) :: rest)) := lv_if_ge hexec hb hdg ht (fun h => kt ((z_le _ _).mp h)) (fun h => kf (Classical.not_not.mp (fun z => h ((z_le _ _).mpr z))))
theorem z_if_gt (hexec : p.tables.exec = Jvm.exec) (hb : c.code = cc) (hdg : decode cc pc = .ok (.ifCond .gt off, 3)) (ht : (pc : Int) + off = (tgt : Int)) (kt : iZ 0 < iZ x → W p l e R s m args below meth c H locs cells slots Q (F0 m tgt ls rest)) (kf : ¬ iZ 0 < iZ x → W p l e R s m args below meth c H locs cells slots Q (F0 m (pc + 3) ls rest)) : W p l e R s m args below meth c H locs cells slots Q (F0 m pc ls (.int (iZ x) :: rest)) := lv_if_gt hexec hb hdg ht kt kf
theorem z_if_le (hexec : p.tables.exec = Jvm.exec) (hb : c.code = cc) (hdg : decode cc pc = .ok (.ifCond .le off, 3)) (ht : (pc : Int) + off = (tgt : Int)) (kt : ¬ iZ 0 < iZ x → W p l e R s m args below meth c H locs cells slots Q (F0 m tgt ls rest)) (kf : iZ 0 < iZ x → W p l e R s m args below meth c H locs cells slots Q (F0 m (pc + 3) ls rest)) : W p l e R s m args below meth c H locs cells slots Q (F0 m pc ls (.int (iZ x) :: rest)) := lv_if_le hexec hb hdg ht (fun h => kt ((z_le _ _).mp h)) (fun h => kf (Classical.not_not.mp (fun z => h ((z_le _ _).mpr z))))
theorem z_tableAt (hexec : p.tables.exec = Jvm.exec) (hb : c.code = cc) {dflt lo hi v : Int} {offs : Array Int} {len : Nat} (hdg : decode cc pc = .ok (.tableswitch dflt lo hi offs, len)) (hc : iZ x = iZ v) (h1 : ¬ (iZ v).toInt < lo) (h2 : ¬ hi < (iZ v).toInt) (ho : offs[((iZ v).toInt - lo).toNat]? = some off) (ht : (pc : Int) + off = (tgt : Int)) (k : W p l e R s m args below meth c H locs cells slots Q (F0 m tgt ls rest)) : W p l e R s m args below meth c H locs cells slots Q (F0 m pc ls (.int (iZ x) :: rest)) := by
  rw [hc]
  exact lv_tableIn hexec hb hdg h1 h2 ho ht k
theorem z_tableNo (hexec : p.tables.exec = Jvm.exec) (hb : c.code = cc) {dflt lo hi : Int} {offs : Array Int} {len : Nat} (hdg : decode cc pc = .ok (.tableswitch dflt lo hi offs, len)) (h : ∀ v, lo ≤ v → v ≤ hi → ¬ iZ x = iZ v) (ht : (pc : Int) + dflt = (tgt : Int)) (k : W p l e R s m args below meth c H locs cells slots Q (F0 m tgt ls rest)) : W p l e R s m args below meth c H locs cells slots Q (F0 m pc ls (.int (iZ x) :: rest)) := by
  refine lv_tableOut hexec hb hdg ?_ ht k
  rcases Int.lt_or_le (iZ x).toInt lo with q | q
  · exact Or.inl q
  · rcases Int.lt_or_le hi (iZ x).toInt with q2 | q2
    · exact Or.inr q2
    · exact absurd (iZ_self (iZ x)).symm (h _ q q2)
theorem z_lookAt (hexec : p.tables.exec = Jvm.exec) (hb : c.code = cc) {dflt v : Int} {ps : Array (Int × Int)} {len : Nat} (hdg : decode cc pc = .ok (.lookupswitch dflt ps, len)) (hp : (ps.toList.zip (ps.toList.drop 1)).all (fun (a, next) => a.1 < next.1) = true) (hc : iZ x = iZ v) (ho : Op.lookupswitch.offset ps.toList dflt (iZ v).toInt = off) (ht : (pc : Int) + off = (tgt : Int)) (k : W p l e R s m args below meth c H locs cells slots Q (F0 m tgt ls rest)) : W p l e R s m args below meth c H locs cells slots Q (F0 m pc ls (.int (iZ x) :: rest)) := by
  rw [hc]
  exact lv_lookup hexec hb hdg hp ho ht k
theorem z_lookNo (hexec : p.tables.exec = Jvm.exec) (hb : c.code = cc) {dflt : Int} {ps : Array (Int × Int)} {len : Nat} (hdg : decode cc pc = .ok (.lookupswitch dflt ps, len)) (hp : (ps.toList.zip (ps.toList.drop 1)).all (fun (a, next) => a.1 < next.1) = true) (h : ∀ q ∈ ps.toList, ¬ iZ x = iZ q.1) (ht : (pc : Int) + dflt = (tgt : Int)) (k : W p l e R s m args below meth c H locs cells slots Q (F0 m tgt ls rest)) : W p l e R s m args below meth c H locs cells slots Q (F0 m pc ls (.int (iZ x) :: rest)) := by
  have key : ∀ L : List (Int × Int), (∀ q ∈ L, ¬ iZ x = iZ q.1) → Op.lookupswitch.offset L dflt (iZ x).toInt = dflt := by
    intro L
    induction L with
    | nil => intro _; rfl
    | cons q L ih =>
      intro hq
      obtain ⟨a, o⟩ := q
      rw [Op.lookupswitch.offset_cons, if_neg]
      · exact ih (fun z hz => hq z (List.mem_cons_of_mem _ hz))
      · intro ha
        exact hq (a, o) List.mem_cons_self (by rw [ha]; exact (iZ_self _).symm)
  exact lv_lookup hexec hb hdg hp (key _ h) ht k
theorem z_mmax (hexec : p.tables.exec = Jvm.exec) (hb : c.code = cc) (hml : c.maxLocals = ls.size) {own : String} {index : Nat} (hown : s.vm.findClass own = some m.cls) (hlink : (Cond.methodLink own index Lib.Math.max.name).before args s = true) (hstat : (Cond.static Lib.Math.max.name).before args s = true) (hini : (Cond.initialized "java/lang/Math").before args s = true) (hcode : (Cond.code Lib.Math.max.name Lib.Math.max.code 2 (some .int)).before args s = true) (hframes : 1 ≤ R.frames) (hlocals : (rest.map fun v => v.category).sum + 13 ≤ R.locals) (hc : cells ≤ R.cells) (hs : slots ≤ R.slots) (hdg : decode cc pc = .ok (.invokestatic index, 3))
    (kk : W p l e R s m args below meth c H locs cells slots Q (F0 m (pc + 3) ls (.int (iZ (mxZ x y)) :: rest))) : W p l e R s m args below meth c H locs cells slots Q (F0 m pc ls (.int (iZ y) :: .int (iZ x) :: rest)) :=
  va_mmax hexec hb hml hown hlink hstat hini hcode hframes hlocals hc hs hdg (by
    unfold mxZ at kk
    by_cases h : iZ x < iZ y
    · rw [if_pos h] at kk ⊢; exact kk
    · rw [if_neg h] at kk ⊢; exact kk)
theorem z_mmin (hexec : p.tables.exec = Jvm.exec) (hb : c.code = cc) (hml : c.maxLocals = ls.size) {own : String} {index : Nat} (hown : s.vm.findClass own = some m.cls) (hlink : (Cond.methodLink own index Lib.Math.min.name).before args s = true) (hstat : (Cond.static Lib.Math.min.name).before args s = true) (hini : (Cond.initialized "java/lang/Math").before args s = true) (hcode : (Cond.code Lib.Math.min.name Lib.Math.min.code 2 (some .int)).before args s = true) (hframes : 1 ≤ R.frames) (hlocals : (rest.map fun v => v.category).sum + 13 ≤ R.locals) (hc : cells ≤ R.cells) (hs : slots ≤ R.slots) (hdg : decode cc pc = .ok (.invokestatic index, 3))
    (kk : W p l e R s m args below meth c H locs cells slots Q (F0 m (pc + 3) ls (.int (iZ (mnZ x y)) :: rest))) : W p l e R s m args below meth c H locs cells slots Q (F0 m pc ls (.int (iZ y) :: .int (iZ x) :: rest)) :=
  va_mmin hexec hb hml hown hlink hstat hini hcode hframes hlocals hc hs hdg (by
    unfold mnZ at kk
    by_cases h : iZ y < iZ x
    · rw [if_pos h] at kk ⊢; exact kk
    · rw [if_neg h] at kk ⊢; exact kk)
theorem z_mabs (hexec : p.tables.exec = Jvm.exec) (hb : c.code = cc) (hml : c.maxLocals = ls.size) {own : String} {index : Nat} (hown : s.vm.findClass own = some m.cls) (hlink : (Cond.methodLink own index Lib.Math.abs.name).before args s = true) (hstat : (Cond.static Lib.Math.abs.name).before args s = true) (hini : (Cond.initialized "java/lang/Math").before args s = true) (hcode : (Cond.code Lib.Math.abs.name Lib.Math.abs.code 1 (some .int)).before args s = true) (hframes : 1 ≤ R.frames) (hlocals : (rest.map fun v => v.category).sum + 13 ≤ R.locals) (hc : cells ≤ R.cells) (hs : slots ≤ R.slots) (hdg : decode cc pc = .ok (.invokestatic index, 3))
    (kk : W p l e R s m args below meth c H locs cells slots Q (F0 m (pc + 3) ls (.int (iZ (abZ x)) :: rest))) : W p l e R s m args below meth c H locs cells slots Q (F0 m pc ls (.int (iZ x) :: rest)) :=
  va_mabs hexec hb hml hown hlink hstat hini hcode hframes hlocals hc hs hdg (by
    unfold abZ at kk
    by_cases h : iZ x < iZ 0
    · rw [if_pos h] at kk
      rw [if_neg (show ¬ (0 : Int32) ≤ iZ x from fun z => ((z_le x 0).mp z) h)]
      rw [← iZ_sub] at kk
      exact kk
    · rw [if_neg h] at kk
      rw [if_pos (show (0 : Int32) ≤ iZ x from (z_le x 0).mpr h)]
      exact kk)
def cmpZ (x y : Int) : Int := (lg_cmp (iZ x).toInt64 (iZ y).toInt64).toInt
theorem z_lcmp (hexec : p.tables.exec = Jvm.exec) (hb : c.code = cc) (hdg : decode cc pc = .ok (.lcmp, 1)) (k : W p l e R s m args below meth c H locs cells slots Q (F0 m (pc + 1) ls (.int (iZ (cmpZ x y)) :: rest))) : W p l e R s m args below meth c H locs cells slots Q (F0 m pc ls (.long (iZ y).toInt64 :: .long (iZ x).toInt64 :: rest)) := W.lcmp hexec hb hdg (by rw [cmpZ, iZ_self] at k; exact k)
theorem z_ldc {v : Int32} {n : Int} (hv : v = iZ n) (hexec : p.tables.exec = Jvm.exec) (hb : c.code = cc) {own : String} {index : Nat} (hown : s.vm.findClass own = some m.cls) (hconst : (Jvm.Cond.constant own index v).before args s = true) (hdg : decode cc pc = .ok (.ldc index, 2)) (k : W p l e R s m args below meth c H locs cells slots Q (F0 m (pc + 2) ls (.int (iZ n) :: rest))) : W p l e R s m args below meth c H locs cells slots Q (F0 m pc ls rest) := lv_ldc hexec hb hown hconst hdg (by rw [hv]; exact k)
theorem z_ldcw {v : Int32} {n : Int} (hv : v = iZ n) (hexec : p.tables.exec = Jvm.exec) (hb : c.code = cc) {own : String} {index : Nat} (hown : s.vm.findClass own = some m.cls) (hconst : (Jvm.Cond.constant own index v).before args s = true) (hdg : decode cc pc = .ok (.ldc_w index, 3)) (k : W p l e R s m args below meth c H locs cells slots Q (F0 m (pc + 3) ls (.int (iZ n) :: rest))) : W p l e R s m args below meth c H locs cells slots Q (F0 m pc ls rest) := lv_ldcw hexec hb hown hconst hdg (by rw [hv]; exact k)
theorem z_ldc2 {v : Int64} {n : Int} (hv : v = (iZ n).toInt64) (hexec : p.tables.exec = Jvm.exec) (hb : c.code = cc) {own : String} {index : Nat} (hown : s.vm.findClass own = some m.cls) (hconst : (Jvm.Cond.constantLong own index v).before args s = true) (hdg : decode cc pc = .ok (.ldc2_w index, 3)) (k : W p l e R s m args below meth c H locs cells slots Q (F0 m (pc + 3) ls (.long (iZ n).toInt64 :: rest))) : W p l e R s m args below meth c H locs cells slots Q (F0 m pc ls rest) := lv_ldc2 hexec hb hown hconst hdg (by rw [hv]; exact k)
section ZW
variable {G : ZG} {D : va_G} {A : Nat → Prop} {ws ws' : va_W} {tys : List (ClassId × FieldType)} {a : Nat} {H0 : Heap}
theorem z_put (hexec : p.tables.exec = Jvm.exec) (hb : c.code = cc) {own ref C : String} {T : u_T} {N ci index : Nat} {Ts : List Cond} (hts : ∀ w ∈ Ts, w.before args s = true) (hin : ∀ w ∈ u_ws C T N, w ∈ Ts) (ty0 : Nat → FieldType) (hty : ∀ k, k < N → parseFieldDescriptor (T k).2.2.1 = some (ty0 k)) (hnm : ∀ a, a < N → ∀ b, b < N → a ≠ b → (T a).2.1 ≠ (T b).2.1) (hown : s.vm.findClass own = some m.cls) (hK : va_K D vwCl tys s) (hP : va_P D vwCl ws H) (hD : va_D A ws) (hS0 : va_S A H0 H locs) (q0 : Nat) {fs : List Value} (he : ws[q0]? = some (a, .inr (ci, fs))) (hc : vwCl[ci]? = some (C, T, N)) (k : Nat) (hk : k < N) (hlink : (Cond.fieldLink own index ref (T k).2.1 (T k).2.2.1).before args s = true) (hsame : ∀ x, s.fieldFound? (T k).1 (T k).2.1 (T k).2.2.1 = some x → s.fieldFound? ref (T k).2.1 (T k).2.2.1 = some x) (hfin : (T k).2.2.2 = false) {ty : FieldType} {v : Value} (hd : parseFieldDescriptor (T k).2.2.1 = some ty) (hn : narrow ty v = v) (hfit : fits ty v = true) (hl : k < fs.length) (hw : ws.set q0 (a, .inr (ci, fs.set k v)) = ws')
    (hdg : decode cc pc = .ok (.putfield index, 3)) (kk : ∀ (H1 : Heap) (locs1 : List Loc), va_P D vwCl ws' H1 → va_D A ws' → va_S A H0 H1 locs1 → W p l e R s m args below meth c H1 locs1 cells slots Q (F0 m (pc + 3) ls rest)) : W p l e R s m args below meth c H locs cells slots Q (F0 m pc ls (v :: .ref a :: rest)) :=
  va_put hexec hb hts hin ty0 hty hnm hown hK hP hD hS0 q0 he hc k hk hlink hsame hfin hd hn hfit hl hdg (by rw [hw]; exact kk)
theorem z_copyi (hexec : p.tables.exec = Jvm.exec) (hb : c.code = cc) (hml : c.maxLocals = ls.size) {own : String} {index : Nat} (hown : s.vm.findClass own = some m.cls) (hlink : (Cond.methodLink own index arraycopyName).before args s = true) (hnat : (Cond.native arraycopyName).before args s = true) (hstat : (Cond.static arraycopyName).before args s = true) (hini : (Cond.initialized "java/lang/System").before args s = true)
    (hK : va_K D vwCl tys s) (hP : va_P D vwCl ws H) (hD : va_D A ws) (hS : va_S A H0 H locs) (q0 q1 t0 t1 : Nat) {a0 : Nat} {c0 c1 : ClassId} {n0 n1 : Nat} {f g : Nat → Int} (ha0 : ws[q0]? = some (a0, zA c0 n0 f)) (ha1 : ws[q1]? = some (a, zA c1 n1 g)) (ht0 : tys[t0]? = some (c0, .int)) (ht1 : tys[t1]? = some (c1, .int)) (hn0 : n0 ≤ 2147483647) (hn1 : n1 ≤ 2147483647)
    {sp dp n : Int} (hg : 0 ≤ sp ∧ 0 ≤ dp ∧ 0 ≤ n ∧ sp + n ≤ (n0 : Int) ∧ dp + n ≤ (n1 : Int)) (hw : ws.set q1 (a, zA c1 n1 (cpZ f g sp.toNat dp.toNat n.toNat)) = ws') (hframes : 1 ≤ R.frames) (hlocals : (rest.map fun v => v.category).sum + (nativeFrameWords "java/lang/System" "arraycopy" 5 + 11) ≤ R.locals) (hdg : decode cc pc = .ok (.invokestatic index, 3))
    (kk : ∀ (H1 : Heap) (locs1 : List Loc), va_P D vwCl ws' H1 → va_D A ws' → va_S A H0 H1 locs1 → W p l e R s m args below meth c H1 locs1 cells slots Q (F0 m (pc + 3) ls rest)) : W p l e R s m args below meth c H locs cells slots Q (F0 m pc ls (.int (iZ n) :: .int (iZ dp) :: .ref a :: .int (iZ sp) :: .ref a0 :: rest)) := by
  obtain ⟨g1, g2, g3, g4, g5⟩ := hg
  have e1 : (iZ sp).toNatClampNeg = sp.toNat := iZ_clamp g1 (by omega)
  have e2 : (iZ dp).toNatClampNeg = dp.toNat := iZ_clamp g2 (by omega)
  have e3 : (iZ n).toNatClampNeg = n.toNat := iZ_clamp g3 (by omega)
  have nn : ∀ z : Int, 0 ≤ z → z < 2147483648 → ¬ iZ z < 0 := fun z z1 z2 h => by
    have h2 : iZ z < iZ 0 := h
    rw [iZ_lt (by omega) z2 (by omega) (by omega)] at h2
    omega
  refine va_copyi (ty := .int) hexec hb hml hown hlink hnat hstat hini hK hP hD hS q0 q1 t0 t1 ha0 ha1 ht0 ht1 rfl (nn sp g1 (by omega)) (nn dp g2 (by omega)) (nn n g3 (by omega)) (by rw [e1, e3]; omega) (by rw [e2, e3]; omega) (fun _ _ => rfl) hframes hlocals hdg ?_
  rw [e1, e2, e3, cpZ_cpy, hw]
  exact kk
theorem z_copyg (hexec : p.tables.exec = Jvm.exec) (hb : c.code = cc) (hml : c.maxLocals = ls.size) {own : String} {index : Nat} (hown : s.vm.findClass own = some m.cls) (hlink : (Cond.methodLink own index arraycopyName).before args s = true) (hnat : (Cond.native arraycopyName).before args s = true) (hstat : (Cond.static arraycopyName).before args s = true) (hini : (Cond.initialized "java/lang/System").before args s = true)
    (hK : va_K D vwCl tys s) (hP : va_P D vwCl ws H) (hD : va_D A ws) (hS : va_S A s.heap H locs) {a0 n0 : Nat} {f g : Nat → Int} (hX : va_X a0 n0 (fun j => iZ (f j)) s s.heap ∧ ¬ A a0) (q1 t1 : Nat) {c1 : ClassId} {n1 : Nat} (ha1 : ws[q1]? = some (a, zA c1 n1 g)) (ht1 : tys[t1]? = some (c1, .int)) (hn1 : n0 ≤ 2147483647 ∧ n1 ≤ 2147483647)
    {sp dp n : Int} (hg : 0 ≤ sp ∧ 0 ≤ dp ∧ 0 ≤ n ∧ sp + n ≤ (n0 : Int) ∧ dp + n ≤ (n1 : Int)) (hw : ws.set q1 (a, zA c1 n1 (cpZ f g sp.toNat dp.toNat n.toNat)) = ws') (hframes : 1 ≤ R.frames) (hlocals : (rest.map fun v => v.category).sum + (nativeFrameWords "java/lang/System" "arraycopy" 5 + 11) ≤ R.locals) (hdg : decode cc pc = .ok (.invokestatic index, 3))
    (kk : ∀ (H1 : Heap) (locs1 : List Loc), va_P D vwCl ws' H1 → va_D A ws' → va_S A s.heap H1 locs1 → W p l e R s m args below meth c H1 locs1 cells slots Q (F0 m (pc + 3) ls rest)) : W p l e R s m args below meth c H locs cells slots Q (F0 m pc ls (.int (iZ n) :: .int (iZ dp) :: .ref a :: .int (iZ sp) :: .ref a0 :: rest)) := by
  obtain ⟨g1, g2, g3, g4, g5⟩ := hg
  have e1 : (iZ sp).toNatClampNeg = sp.toNat := iZ_clamp g1 (by omega)
  have e2 : (iZ dp).toNatClampNeg = dp.toNat := iZ_clamp g2 (by omega)
  have e3 : (iZ n).toNatClampNeg = n.toNat := iZ_clamp g3 (by omega)
  have nn : ∀ z : Int, 0 ≤ z → z < 2147483648 → ¬ iZ z < 0 := fun z z1 z2 h => by
    have h2 : iZ z < iZ 0 := h
    rw [iZ_lt (by omega) z2 (by omega) (by omega)] at h2
    omega
  refine va_copyx hexec hb hml hown hlink hnat hstat hini hK hP hD hS hX.1 hX.1.lt hX.2 q1 t1 ha1 ht1 (nn sp g1 (by omega)) (nn dp g2 (by omega)) (nn n g3 (by omega)) (by rw [e1, e3]; omega) (by rw [e2, e3]; omega) hframes hlocals hdg ?_
  rw [e1, e2, e3, cpZ_cpy, hw]
  exact kk
/-- an element of a static row of ints -/
theorem z_gald (hexec : p.tables.exec = Jvm.exec) (hb : c.code = cc) (hS : va_S A s.heap H locs) {a0 n0 : Nat} {f : Nat → Int} (hX : va_X a0 n0 (fun j => iZ (f j)) s s.heap ∧ ¬ A a0) {i : Int} (hn : n0 ≤ 2147483648) (hg : 0 ≤ i ∧ i < (n0 : Int)) (hdg : decode cc pc = .ok (.iaload, 1))
    (kk : W p l e R s m args below meth c H locs cells slots Q (F0 m (pc + 1) ls (.int (iZ (f i.toNat)) :: rest))) : W p l e R s m args below meth c H locs cells slots Q (F0 m pc ls (.int (iZ i) :: .ref a0 :: rest)) :=
  va_sld hexec hb hX.1 hX.1.lt hX.2 hS (iZ_in hn hg) hdg (by rw [iZ_clamp hg.1 (by omega)]; exact kk)
end ZW
end ZR
