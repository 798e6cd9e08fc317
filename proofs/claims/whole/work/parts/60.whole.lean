/-! THE CLAIM OUT OF ONE WALK OF THE LAW'S BODY. Your part is whole_start (and what it stands on); all else here is the same for every law, but numbers. -/
def R_law : String := "FlickerDeskLaw"
def lw_P (b : Addr) (xs : List Int32) (args : Array Value) (s : State) : Prop := args = #[.ref b] ∧ s.IntsAt b xs ∧ xs.length ≤ 3072 ∧ (Jvm.Cond.and given_1 narrow_1).before args s = true
def lw_Q (_ : Array Value) (s : State) (o : Outcome) (t : State) : Prop := o = .returned (some (.int 1)) ∧ Framed s o t [] 601024 7293033
def lw_Z (below : List Frame) (a : Array Value) (s : State) : State → Prop := fun t => ∃ o, t.status = .running ∧ Ended t below o ∧ lw_Q a s o t
/-- the law's own end, with 1 on the stack, nothing written that was there before, its room as the claim has it -/
theorem lw_ret {p : Program} {l : Launch} {e : Env} {s : State} {m : MethodId} {below : List Frame} {meth : Method} {c : Code} {b : Nat} (hx : p.tables.exec = Jvm.exec) (hb : c.code = code) (hr : meth.sig.returnType = ret) (hlocks : meth.locks = false) {pc : Nat} {H : Heap} {ls : Array Slot} (hdg : decode code pc = .ok (.ireturn, 1)) : W p l e room_1 s m #[Value.ref b] below meth c H [] 601024 7293033 (lw_Z below #[Value.ref b] s) (F0 m pc ls [.int 1]) := by
  intro T hT X
  obtain ⟨fs, hret, hrun, hended, hW, hframe⟩ := X.leave (v := some (.int 1)) (hlocks := hlocks) (fun h => by rw [hr] at h; cases h)
  have hmeth' : T.vm.method? m = some meth := X.method'
  refine ⟨T.setFrames fs, ?_, .returned (some (.int 1)), hrun, hended, rfl, ⟨_, rfl⟩, hW, hframe⟩
  jvm_step X.here [X.here.top, hx, hb, hdg, hmeth', hr, ret, narrow_b1]
  (try refine ⟨rfl, ?_⟩); (try refine ⟨rfl, ?_⟩)
  first | (intro acts; rw [hret _ acts rfl rfl rfl]) | rw [hret _ _ rfl rfl rfl]
  exact Steps.refl _
/-- what holds at the law's entry: the machine, the code, the tables' words (any of lw_tbl by 'hts w (by decide +kernel)'), the script of L ints xs at the cell b, what the Statement gives of the start (any of its parts by flat_of_before) -/
def lw_At (p : Program) (s : State) (m : MethodId) (meth : Method) (c : Code) (b L : Nat) (xs : Nat → Int32) : Prop :=
  p.tables.exec = Jvm.exec ∧ c.code = code ∧ meth.sig.returnType = ret ∧ c.maxLocals = 7 ∧ s.vm.findClass R_law = some m.cls ∧ (∀ w ∈ lw_tbl, w.before #[Value.ref b] s = true) ∧ va_X b L xs s s.heap ∧ b < s.heap.size ∧ meth.locks = false ∧ (Jvm.Cond.and given_1 narrow_1).before #[Value.ref b] s = true
set_option maxHeartbeats 8000000 in
set_option maxRecDepth 100000 in
theorem whole_start {p : Program} {e : Env} {s : State} {m : MethodId} {below : List Frame} {meth : Method} {c : Code} (l : Launch) (hflags : l.flags = flags0) {b L : Nat} {xs : Nat → Int32} (hL : L ≤ 3072) (C0 : lw_At p s m meth c b L xs) : W p l e room_1 s m #[Value.ref b] below meth c s.heap [] 0 0 (lw_Z below #[Value.ref b] s) (entryFrame m ([Value.ref b] : List Value).toArray 7) := by
  obtain ⟨hx, hb, hr, hml, hown, hts, hX, hbl, hlocks, hgv⟩ := id C0
  have hs : ∀ w ∈ fC, w.before #[Value.ref b] s = true := flat_of_before _ hgv
  have hA : ∀ q : Nat, s.heap.size ≤ q → sA s q := fun _ h => h
  obtain ⟨G, hZ⟩ := st_Z hts hs
  have hXx := st_X hts hs
  have hNc : zNc s := st_N hts
  obtain ⟨D, cA, hK⟩ := st_K hts
  have C : CallFix p m c cL_law 7 s #[Value.ref b] vLaw RL := ⟨hx, hb, hml, hown, fun w h => hts w (vLaw_t w h)⟩
  have hlt : l.stackTraces = false := by
    unfold Launch.stackTraces
    rw [hflags]
    decide +kernel
  have hscr : va_X b L (fun j => iZ ((xs j).toInt)) s s.heap := by
    rw [show (fun j => iZ ((xs j).toInt)) = xs from funext (fun j => iZ_self (xs j))]
    exact hX
  have hxs : ∀ j, -2147483648 ≤ (xs j).toInt ∧ (xs j).toInt < 2147483648 := fun j => by
    have h1 := Int32.le_toInt (xs j)
    have h2 := Int32.toInt_lt (xs j)
    omega
  obtain ⟨r, hc, hcp⟩ := clear_ok (N := 20000) (w := 0) (h := 0) (f := 0) (cu := fun _ => 0) (sk := fun _ => 0) (we := fun _ => 0) (se := fun _ => 0) (by omega)
  obtain ⟨rp, hp, hpp⟩ := plain_ok (N := 20000) (s := fun _ => 0) (by omega)
  have hl := lv_entry ([.ref b]) (n := 7) (Nat.le_of_ble_eq_true rfl)
  rw [lg_entry_eq]
  generalize (lg_sl ([.ref b]) ++ List.replicate (7 - (lg_sl ([.ref b])).length) Slot.unset).toArray = ls at hl ⊢
  have hl : lv_has ls 7 [(0, .ref b)] := hl
  have kr : kL_law p l e s m #[Value.ref b] below meth c (lw_Z below #[Value.ref b] s) (sA s) := by
    intro H locs ls j hj hS
    refine va_forget (fun q hq => hS.2.2 q hq) ?_
    refine W.widen (k := 601024) (n := 7293033) (by omega) (by omega) ?_
    rw [show iZ 1 = 1 by decide]
    exact lw_ret hx hb hr hlocks dL_law_1377
  refine lw_pro (A := sA s) 20000 hc hp C hK hA hZ hNc ls hl (fun qx qy qo u1 u2 H locs ls hP hD hS hl => ?_)
  have hloop := lw_loop (N := 20000) (xs := fun j => (xs j).toInt) (by omega) hL hxs 600 0 (by omega) (by omega)
  rw [show (6 * ((0 : Nat) : Int)) = 0 from rfl] at hloop
  obtain ⟨a1, e1, h1⟩ := hloop r.1 r.2.1 r.2.2.1 r.2.2.2.2.1 r.2.2.2.1 0 0 0 ((-1)) 0 0 0 0 r.2.2.2.2.2.1 0 0 0 0 0 0 ((-1)) 0 0 0 0 rp r.2.2.2.2.2.2 0 0 (fun _ => 0) (fun _ => 0) 0 (fun _ => 0) (fun _ => 0) (fun _ => 0) (fun _ => 0) (fun _ => 0) (fun _ => 0) 0 (fun _ => 0) (fun _ => 0) (fun _ => 0) (fun _ => 0) (fun _ => 0) (fun _ => 0) (fun _ => 0) (fun _ => 0) (fun _ => 0) (fun _ => 0) (fun _ => 0) (fun _ => 0) (fun _ => 0) (fun _ => 0) (fun _ => 0) (fun _ => 0) 0 0 0 0 0 (fun _ => 0) (fun _ => 0) (fun _ => 0) (fun _ => 0) (fun _ => 0) (fun _ => 0) r.1 r.2.1 r.2.2.1 (fun _ => 0) r.2.2.2.1 r.2.2.2.2.1 r.2.2.2.2.2.2 r.2.2.2.2.2.1 0 0 (fun _ => 0) 0 (fun _ => 0) (fun _ => 0) (fun _ => 0) (fun _ => 0) (fun _ => 0) (fun _ => 0) 0 (fun _ => 0) (fun _ => 0) (fun _ => 0) (fun _ => 0) (fun _ => 0) (fun _ => 0) (fun _ => 0) (fun _ => 0) r.1 r.2.1 r.2.2.1 r.2.2.2.1 r.2.2.2.2.1 r.2.2.2.2.2.1 r.2.2.2.2.2.2 (fun _ => 0) (fun _ => 0) (fun _ => 0) (fun _ => 0) (fun _ => 0) (fun i j => u1 (35 + 6 * i + j)) (fun _ _ => 0) (fun _ => r.2.2.2.1) (fun _ => r.2.2.2.2.1) (fun _ => r.2.2.2.2.2.2) (fun _ => r.2.2.2.2.2.1) (fun _ => r.1) (fun _ => r.2.1) (fun _ => r.2.2.1) (lw_init (N := 20000) (by omega) hcp hpp)
  subst h1
  refine W.widen (k := 133 + 0) (n := 47207 + 6 * 0) (Nat.le_of_ble_eq_true rfl) (Nat.le_of_ble_eq_true rfl) ?_
  exact wL_law_L23 p l e s m #[Value.ref b] below meth c (lw_Z below #[Value.ref b] s) G D cA (sA s) b L (fun j => (xs j).toInt) qx (u1 0) (u1 3) (u1 2) (u1 33) (u1 23) (u1 5) qy (u2 0) (u1 4) (u1 6) (u1 7) (u1 8) (u1 1) (u1 11) (u1 12) (u1 13) (u1 14) (u1 20) (u1 21) (u1 22) (u1 15) (u1 17) (u1 18) (u1 19) (u1 16) (u1 9) (u1 10) (u2 5) (u2 4) (u2 6) (u2 7) (u2 8) (u1 111) (u1 112) (u1 113) (u2 14) (u2 11) (u2 10) (u2 9) (u1 114) (u1 106) (u1 108) (u1 107) (u1 109) (u1 110) (u2 12) (u2 13) (u1 83) (u1 84) (u1 85) (u1 86) (u1 87) (u1 88) (u1 89) (u1 90) (u1 91) (u1 94) (u1 95) (u1 96) (u1 97) (u1 103) (u1 104) (u1 105) (u1 98) (u1 100) (u1 101) (u1 102) (u1 99) (u1 92) (u1 93) (u2 1) qo (u2 2) (u1 24) (u1 26) (u1 27) (u1 29) (u1 28) (u1 31) (u1 32) (u1 30) (u1 25) (u2 3) (u1 34) 20000 hlt C hK hA hZ hXx hscr (Nat.not_le.mpr hbl) hL 1 rfl kr (fL_law_j1376 20000 L (fun j => (xs j).toInt)) (wL_law_j1376 p l e s m #[Value.ref b] below meth c (lw_Z below #[Value.ref b] s) G D cA (sA s) b L (fun j => (xs j).toInt) qx (u1 0) (u1 3) (u1 2) (u1 33) (u1 23) (u1 5) qy (u2 0) (u1 4) (u1 6) (u1 7) (u1 8) (u1 1) (u1 11) (u1 12) (u1 13) (u1 14) (u1 20) (u1 21) (u1 22) (u1 15) (u1 17) (u1 18) (u1 19) (u1 16) (u1 9) (u1 10) (u2 5) (u2 4) (u2 6) (u2 7) (u2 8) (u1 111) (u1 112) (u1 113) (u2 14) (u2 11) (u2 10) (u2 9) (u1 114) (u1 106) (u1 108) (u1 107) (u1 109) (u1 110) (u2 12) (u2 13) (u1 83) (u1 84) (u1 85) (u1 86) (u1 87) (u1 88) (u1 89) (u1 90) (u1 91) (u1 94) (u1 95) (u1 96) (u1 97) (u1 103) (u1 104) (u1 105) (u1 98) (u1 100) (u1 101) (u1 102) (u1 99) (u1 92) (u1 93) (u2 1) qo (u2 2) (u1 24) (u1 26) (u1 27) (u1 29) (u1 28) (u1 31) (u1 32) (u1 30) (u1 25) (u2 3) (u1 34) 20000 hlt C hK hA hZ hXx hscr (Nat.not_le.mpr hbl) hL 1 rfl kr) 600 0 r.1 r.2.1 r.2.2.1 r.2.2.2.2.1 r.2.2.2.1 0 0 0 ((-1)) 0 0 0 0 r.2.2.2.2.2.1 0 0 0 0 0 0 ((-1)) 0 0 0 0 rp r.2.2.2.2.2.2 0 0 (fun _ => 0) (fun _ => 0) 0 (fun _ => 0) (fun _ => 0) (fun _ => 0) (fun _ => 0) (fun _ => 0) (fun _ => 0) 0 (fun _ => 0) (fun _ => 0) (fun _ => 0) (fun _ => 0) (fun _ => 0) (fun _ => 0) (fun _ => 0) (fun _ => 0) (fun _ => 0) (fun _ => 0) (fun _ => 0) (fun _ => 0) (fun _ => 0) (fun _ => 0) (fun _ => 0) (fun _ => 0) 0 0 0 0 0 (fun _ => 0) (fun _ => 0) (fun _ => 0) (fun _ => 0) (fun _ => 0) (fun _ => 0) r.1 r.2.1 r.2.2.1 (fun _ => 0) r.2.2.2.1 r.2.2.2.2.1 r.2.2.2.2.2.2 r.2.2.2.2.2.1 0 0 (fun _ => 0) 0 (fun _ => 0) (fun _ => 0) (fun _ => 0) (fun _ => 0) (fun _ => 0) (fun _ => 0) 0 (fun _ => 0) (fun _ => 0) (fun _ => 0) (fun _ => 0) (fun _ => 0) (fun _ => 0) (fun _ => 0) (fun _ => 0) r.1 r.2.1 r.2.2.1 r.2.2.2.1 r.2.2.2.2.1 r.2.2.2.2.2.1 r.2.2.2.2.2.2 (fun _ => 0) (fun _ => 0) (fun _ => 0) (fun _ => 0) (fun _ => 0) (fun i j => u1 (35 + 6 * i + j)) (fun _ _ => 0) (fun _ => r.2.2.2.1) (fun _ => r.2.2.2.2.1) (fun _ => r.2.2.2.2.2.2) (fun _ => r.2.2.2.2.2.1) (fun _ => r.1) (fun _ => r.2.1) (fun _ => r.2.2.1) e1 H locs (hP.sub [0, 1, 4, 3, 34, 24, 6, 116, 117, 5, 7, 8, 9, 2, 12, 13, 14, 15, 21, 22, 23, 16, 18, 19, 20, 17, 10, 11, 122, 121, 123, 124, 125, 112, 113, 114, 131, 128, 127, 126, 115, 107, 109, 108, 110, 111, 129, 130, 84, 85, 86, 87, 88, 89, 90, 91, 92, 95, 96, 97, 98, 104, 105, 106, 99, 101, 102, 103, 100, 93, 94, 118, 132, 119, 25, 27, 28, 30, 29, 32, 33, 31, 26, 120, 35, 36, 37, 38, 39, 40, 41, 42, 43, 44, 45, 46, 47, 48, 49, 50, 51, 52, 53, 54, 55, 56, 57, 58, 59, 60, 61, 62, 63, 64, 65, 66, 67, 68, 69, 70, 71, 72, 73, 74, 75, 76, 77, 78, 79, 80, 81, 82, 83] rfl) (hD.sub [0, 1, 4, 3, 34, 24, 6, 116, 117, 5, 7, 8, 9, 2, 12, 13, 14, 15, 21, 22, 23, 16, 18, 19, 20, 17, 10, 11, 122, 121, 123, 124, 125, 112, 113, 114, 131, 128, 127, 126, 115, 107, 109, 108, 110, 111, 129, 130, 84, 85, 86, 87, 88, 89, 90, 91, 92, 95, 96, 97, 98, 104, 105, 106, 99, 101, 102, 103, 100, 93, 94, 118, 132, 119, 25, 27, 28, 30, 29, 32, 33, 31, 26, 120, 35, 36, 37, 38, 39, 40, 41, 42, 43, 44, 45, 46, 47, 48, 49, 50, 51, 52, 53, 54, 55, 56, 57, 58, 59, 60, 61, 62, 63, 64, 65, 66, 67, 68, 69, 70, 71, 72, 73, 74, 75, 76, 77, 78, 79, 80, 81, 82, 83] (by decide +kernel) rfl) hS ls (lv_sub hl [4, 3, 2, 1, 0] rfl) 0 ⟨rfl, Nat.zero_le _⟩
set_option maxHeartbeats 4000000 in
theorem lw_walk (l : Launch) (hflags : l.flags = flags0) (b : Addr) (xs : List Int32) : MetFree l x (headSpec (Jvm.Cond.code x code maxLocals ret :: tables_1) room_1) (lw_P b xs) (fun _ _ _ _ _ => True) lw_Q := by
  refine MetFree.of_bodyS (code := code) (maxLocals := maxLocals) (ret := ret) (by decide) ?_ ?_
  · intro args s m h hn
    obtain ⟨meth, c, h1, h2, h3, h4, h5, h6, -, -⟩ := Cond.code_spec hn (atoms_spec (ws := Jvm.Cond.code x code maxLocals ret :: tables_1) h _ List.mem_cons_self)
    exact ⟨meth, c, h1, h2, h3, h4, h5, h6⟩
  · intro p e s m args below meth c s₁ B hml0 hP _
    obtain ⟨rfl, hx, hbd, hgv⟩ := hP
    obtain ⟨scr, harrAt, hlist, hof, hsmall⟩ := hx
    obtain ⟨hcb, hkn, -, -⟩ := State.arrayAt?_spec harrAt
    have hown : s.vm.findClass R_law = some m.cls := findClass_of_methodNamed B.named
    have hts0 : ∀ c ∈ (Jvm.Cond.code x code maxLocals ret :: tables_1), c.before #[Value.ref b] s = true := atoms_spec (ws := Jvm.Cond.code x code maxLocals ret :: tables_1) B.pre
    have hts : ∀ w ∈ lw_tbl, w.before #[Value.ref b] s = true := k2_hts_sels lw_privs (fun w hw => hts0 w (List.mem_cons_of_mem _ hw)) lw_privs_ok
    have hml : c.maxLocals = 7 := B.maxLocals_eq (hts0 _ List.mem_cons_self)
    have X₀ : Stand p l e room_1 s m #[Value.ref b] below meth c s₁ [] 0 0 := Stand.of_body B
    have hh0 : s₁.heap = s.heap := by rw [B.state]; rfl
    have hsz : scr.slots.size = xs.length := by rw [← Array.length_toList, hlist, List.length_map]
    have hval : ∀ j : Nat, j < xs.length → scr.slots[j]? = some (.int (xs.getD j 0)) := fun j hj => by
      rw [← Array.getElem?_toList, hlist]
      simp [hj]
    have hbl : b < s.heap.size := (Array.getElem?_eq_some_iff.mp hcb).1
    have hX : va_X b xs.length (fun j => xs.getD j 0) s s.heap := ⟨scr, hcb, hof, hkn, hsz, hval⟩
    have K : W p l e room_1 s m #[Value.ref b] below meth c s₁.heap [] 0 0 (lw_Z below #[Value.ref b] s) (entryFrame m ([Value.ref b] : List Value).toArray 7) := by
      rw [hh0]
      exact whole_start l hflags hbd ⟨B.exec, B.bytes, B.returns, hml, hown, hts, hX, hbl, B.notSynchronized, hgv⟩
    obtain ⟨t, a1, o, b1, b2, b3⟩ := K s₁ rfl X₀
    exact ⟨t, o, a1, b1, b2, b3⟩
theorem lw_pre_spec {args : Array Value} {s : State} (h : (Jvm.Cond.and given_1 narrow_1).before args s = true) (hr : rest_1_c.before args s = true) : ∃ (b : Addr) (xs : List Int32), lw_P b xs args s := by
  have hs := flat_of_before _ h
  have hq := flat_of_before _ hr
  have hc : (Cond.count 1).before args s = true := hs _ (by decide +kernel)
  have harr : (Cond.arrayOf (.arg 0) .int).before args s = true := hs _ (by decide +kernel)
  have hle : (Cond.le (.length (.arg 0)) (.int 3072)).before args s = true := hs _ (by decide +kernel)
  have hlen : (Cond.isInt (.length (.arg 0))).before args s = true := hq _ (by decide +kernel)
  have hall : (Cond.all (.arg 0) (.isInt (.elem (.arg 0) (.index 0)))).before args s = true := hq _ (by decide +kernel)
  obtain ⟨b, xs, hb, hx⟩ := State.ints_of_pre rfl harr hlen hall
  have hsm : xs.length < 2 ^ 31 := hx.choose_spec.2.2.2
  have hev : (Term.length (.arg 0)).eval args s none [] s = some (.int xs.length.toInt32) := hx.length_eval hb
  have hv := Cond.le_ints hev (show (Term.int 3072).eval args s none [] s = some (.int 3072) from rfl)
  have hd : xs.length.toInt32 ≤ 3072 := by
    simpa [Cond.before, Cond.holds, hv] using hle
  have hN : xs.length ≤ 3072 := (Int32.ofNat_le_ofNat hsm (by decide)).mp (show Int32.ofNat xs.length ≤ Int32.ofNat 3072 from hd)
  exact ⟨b, xs, Cond.one_arg hc (show args[0]? = some (.ref b) from hb), hx, hN, h⟩
theorem lw_comes (l : Launch) (hflags : l.flags = flags0) : Comes l x (Jvm.Cond.code x code maxLocals ret :: tables_1) room_1 (fun tb e args s => Calls_1 tb e args s ∧ rest_1 tb e args s ∧ Pre_1 tb e args s)
    (fun _ _ args s o t => lw_Q args s o t) := by
  intro p e ha hc hk s m args below hf hfit hheap happ hpre
  obtain ⟨b, xs, hP⟩ := lw_pre_spec hpre.2.2 hpre.2.1
  obtain ⟨k, o, h1, h2, h3, hQ⟩ := lw_walk l hflags b xs p e ha hc hk s m args below hf ((Spec.applies_iff_loose hf).mp happ).1 hP trivial
  exact ⟨k, o, h1, h2, h3, hQ⟩
theorem lw_frame {s t : State} {o : Outcome} {args : Array Value} (h : Framed s o t [] 601024 7293033) :
    Framed s o t (fieldLocs frame_1_writes args s ++ arrayLocs frame_1_arrays args s ++ staticLocs frame_1_statics s) 601024 7293033 := h
theorem lw_limb (L : Cond) (hL : ∀ (args : Array Value) (s t : State), L.after args s (.returned (some (.int 1))) t = true) :
    ArmFor flags0 classFile x code maxLocals ret World_1 tables_1 room_1 Calls_1 rest_1 Pre_1
      (fun tb e a s o t => postC L tb e a s o t ∧ Framed s o t (fieldLocs frame_1_writes a s ++ arrayLocs frame_1_arrays a s ++ staticLocs frame_1_statics s) 601024 7293033) := by
  intro l hflags _ _ p e ha hc hk s m args below hf hfit hheap happ hpre
  obtain ⟨k, o, h1, h2, h3, rfl, hF⟩ := lw_comes l hflags p e ha hc hk s m args below hf hfit hheap happ hpre
  exact ⟨k, _, h1, h2, h3, hL args s _, lw_frame hF⟩
theorem i_vc : Claimed_1_1 ∧ Claimed_1_2 := ⟨lw_limb limb_1_1 (fun args s t => by simp [limb_1_1, Cond.after, Cond.holds, Cond.value]), lw_limb limb_1_2 (fun args s t => Cond.after_iff.mpr (by
  first | (rw [show limb_1_2 = Cond.eq .result (.int 1) from rfl, Cond.eq_ints (x := 1) (y := 1) rfl rfl]; simp; done) | (simp [limb_1_2, Cond.value, Term.eval]; done)))⟩
