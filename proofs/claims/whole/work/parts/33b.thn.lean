/-! NoSuchElementException: its constructor's call of the one above has another place in the pool. -/
def jv_six : ByteArray := prog_22_method_4_code
def jv_nA (own : String) (ic : Nat) (X Y : String) (idx : Nat) (names : List String) : List Cond :=
  Bundle.throwableAtoms ++ Bundle.throwableSAtoms ++ Bundle.passSAtoms X Y idx jv_six ++ Bundle.chainSAtoms Y names ++
  [.methodLink own ic (Bundle.initS X), .instantiable X 6, .castable X X, .selects X Bundle.tFill0 Bundle.tFill0, .selects X Bundle.tFill Bundle.tFill,
   .lays X Bundle.tN "cause" "Ljava/lang/Throwable;", .lays X Bundle.tN "stackTrace" Bundle.steD, .lays X Bundle.tN "suppressedExceptions" Bundle.listD, .lays X Bundle.tN "detailMessage" "Ljava/lang/String;",
   .isRef (.static Bundle.tN "UNASSIGNED_STACK" Bundle.steD), .isRef (.static Bundle.tN "SUPPRESSED_SENTINEL" Bundle.listD),
   .fieldLink Bundle.tN 198 Bundle.tN "backtrace" "Ljava/lang/Object;", .lays Bundle.tN Bundle.tN "backtrace" "Ljava/lang/Object;", .lays X Bundle.tN "backtrace" "Ljava/lang/Object;"]
section JVN
variable {p : Program} {l : Launch} {e : Env} {R : Room} {s : State} {m : MethodId} {args : Array Value} {below : List Frame} {meth : Method} {c : Code} {H : Heap} {locs : List Loc} {cells slots : Nat} {Q : State → Prop}
variable {cc : ByteArray} {own X Y : String} {rest : List Value}
set_option maxHeartbeats 4000000 in
theorem jv_throwN {pc q sa : Nat} {ls : Array Slot} {names : List String} {ic idx : Nat} {cX : ClassId} {kX : Class} (hexec : p.tables.exec = Jvm.exec) (hb : c.code = cc) (hl9 : l.stackTraces = false) (hlocks : meth.locks = false) (hml : ls.size = c.maxLocals) (hown : s.vm.findClass own = some m.cls)
    (hcls : Bundle.fit X = true) (hY : Bundle.fit Y = true) (hnames : ∀ n ∈ names, Bundle.fit n = true) (hi : decode jv_six 2 = .ok (.invokespecial idx, 3)) (h : ∀ a ∈ jv_nA own ic X Y idx names, a.before args s = true) (hout : c.exceptionTable.isEmpty = true)
    (hfound : s.vm.findClass X = some cX) (hkX : s.vm.classes[cX]? = some kX) (hcell : H[q]? = some (freshCell cX kX)) (hnew : s.heap.size ≤ q)
    (hd6 : decode cc pc = .ok (.invokespecial ic, 3)) (hd9 : decode cc (pc + 3) = .ok (.athrow, 1)) (hRf : names.length + 4 < R.frames) (hRl : ((Value.ref q :: rest).map fun v => v.category).sum + (13 * (names.length + 2) + 42) ≤ R.locals) :
    W p l e R s m args below meth c H [] cells slots (jv_MQ below X args s cells slots) (F0 m pc ls (.ref sa :: .ref q :: .ref q :: rest)) := by
  intro T0 hT0 X0
  have htr : e.platform.stackTraces = false := (show e.platform.stackTraces = l.stackTraces by rw [X0.admits.platform]).trans hl9
  have howns : e.platform.frameOwnsMonitors = true := by rw [X0.admits.platform]
  have hfin : e.platform.finalization = false := by rw [X0.admits.platform]
  have hpl : e.platform.magicAccessors = ({} : Platform).magicAccessors := by rw [X0.admits.platform]
  have a' : ∀ x, x ∈ jv_nA own ic X Y idx names → x.holds args s none s [] = true := fun x hx => h x hx
  obtain ⟨T, Z0, L, -, Y0⟩ := ThrowableC.of_atoms (args := args) howns hfin hpl (fun x hx => h x (by simp [jv_nA, hx]))
  obtain ⟨Z, M, LZ, LM, hnZ⟩ := Init0T.ofS_atoms (args := args) hpl L Y0 (fun x hx => h x (by simp [jv_nA, hx]))
  obtain ⟨P2, Ps, hlen, L2, hL, hP2m, hlink2, hlink⟩ := Bundle.chainS (args := args) hpl hnZ names Y hY hnames (fun x hx => h x (by simp [jv_nA, hx]))
  obtain ⟨P1, L1, hP1m, hP1s⟩ := PassC.ofS_atoms (args := args) (X := X) (Y := Y) (index := idx) (bytes := jv_six) hpl (Bundle.fit_spec hcls).1 (Bundle.fit_spec hY).2 (by decide +kernel) (by decide +kernel) hi (by decide +kernel) (fun x hx => h x (by simp [jv_nA, hx]))
  have hlink1 : P1.sup = firstOf (Z.m T.toThrowableT) ((P2 :: Ps).map (·.toPassT)) := Option.some.inj (hP1s.symm.trans hP2m)
  have hfoundP : s.vm.findClass X = some P1.m.cls := findClass_of_methodNamed hP1m
  cases Option.some.inj (hfound.symm.trans hfoundP)
  obtain ⟨c1, kX', hc1, hk, hord, -, -, hn6⟩ := Cond.instantiable_spec (a' (.instantiable X 6) (by simp [jv_nA]))
  cases Option.some.inj (hc1.symm.trans hfoundP)
  cases Option.some.inj (hkX.symm.trans hk)
  have hsel0 : selectMethod e.platform s.vm P1.m.cls T.fill0 = .method T.fill0 := by
    obtain ⟨c2, r2, m2, q1, q2, q3, q4, -⟩ := Cond.selects_spec (a' (.selects X Bundle.tFill0 Bundle.tFill0) (by simp [jv_nA]))
    cases Option.some.inj (q1.symm.trans hfoundP)
    cases Option.some.inj (q2.symm.trans (State.methodFound?_of_named Y0.fill0 (by decide)))
    cases Option.some.inj (q3.symm.trans Y0.fill0)
    rw [Launch.admits_selectMethod X0.admits]; exact q4
  have hselF : selectMethod e.platform s.vm P1.m.cls T.fill = .method T.fill := by
    obtain ⟨c2, r2, m2, q1, q2, q3, q4, -⟩ := Cond.selects_spec (a' (.selects X Bundle.tFill Bundle.tFill) (by simp [jv_nA]))
    cases Option.some.inj (q1.symm.trans hfoundP)
    cases Option.some.inj (q2.symm.trans (State.methodFound?_of_named Y0.fill (by decide)))
    cases Option.some.inj (q3.symm.trans Y0.fill)
    rw [Launch.admits_selectMethod X0.admits]; exact q4
  obtain ⟨cellS0, hcS0, hiss⟩ := Y0.statics
  obtain ⟨u0, hu0⟩ := Cond.staticRefV Y0.unassigned L.unassignedStatic L.statics hcS0 hiss (a' (.isRef (.static Bundle.tN "UNASSIGNED_STACK" Bundle.steD)) (by simp [jv_nA]))
  obtain ⟨sen, hsen⟩ := Cond.staticRefV Y0.sentinel L.sentinelStatic L.statics hcS0 hiss (a' (.isRef (.static Bundle.tN "SUPPRESSED_SENTINEL" Bundle.listD)) (by simp [jv_nA]))
  obtain ⟨ci198, i198, fB, hk198, hg198, ha198, hsB, -, hnB, htB, hffB⟩ := Cond.ownField (t := .object "java/lang/Object") Y0.found L.cls (by decide +kernel) (a' (.fieldLink Bundle.tN 198 Bundle.tN "backtrace" "Ljava/lang/Object;") (by simp [jv_nA])) (a' (.lays Bundle.tN Bundle.tN "backtrace" "Ljava/lang/Object;") (by simp [jv_nA])) e.platform hpl
  obtain ⟨cellS, hcS', heS, -, hkeep⟩ := X0.same.2.2.2.2.2 T.aS cellS0 hcS0
  have hcellS : T0.heap[T.aS]? = some cellS := hcS'
  have hknownS : cellS.vm ≠ .unknown := by
    rw [heS]; intro hu
    rw [show cellS0.vm = .unknown from hu] at hiss
    cases hiss
  have hneS : T.aS ≠ q := Nat.ne_of_lt (Nat.lt_of_lt_of_le (Array.getElem?_eq_some_iff.mp hcS0).1 hnew)
  obtain ⟨iM, hffM⟩ := Y0.msg
  obtain ⟨tyC, dC, hdC, hdnC⟩ := Cond.laysAt hfoundP hk Y0.cause (a' (.lays X Bundle.tN "cause" "Ljava/lang/Throwable;") (by simp [jv_nA]))
  obtain ⟨tyS, dS, hdS, hdnS⟩ := Cond.laysAt hfoundP hk Y0.stack (a' (.lays X Bundle.tN "stackTrace" Bundle.steD) (by simp [jv_nA]))
  obtain ⟨tyP, dP, hdP, hdnP⟩ := Cond.laysAt hfoundP hk Y0.supp (a' (.lays X Bundle.tN "suppressedExceptions" Bundle.listD) (by simp [jv_nA]))
  obtain ⟨tyM, dM, hdM, hdnM⟩ := Cond.laysAt hfoundP hk hffM (a' (.lays X Bundle.tN "detailMessage" "Ljava/lang/String;") (by simp [jv_nA]))
  obtain ⟨tyB, dB, hdB, hdnB⟩ := Cond.laysAt hfoundP hk hffB (a' (.lays X Bundle.tN "backtrace" "Ljava/lang/Object;") (by simp [jv_nA]))
  have bC := Cond.laysApart hdB hdC hdnB hdnC (by rw [hnB, Y0.causeName]; decide)
  have bS := Cond.laysApart hdB hdS hdnB hdnS (by rw [hnB, Y0.stackName]; decide)
  have bP := Cond.laysApart hdB hdP hdnB hdnP (by rw [hnB, Y0.suppName]; decide)
  have hskip : SkipFacts T e.platform s (fun u => u) u0 ((preparedCellV T.toThrowableT (freshCell P1.m.cls kX) q u0 sen).withEntry T0.cur) :=
    ⟨{ ci198 := ci198, i198 := i198, fBack := fB }, ⟨hk198, hg198, ha198, hsB⟩, by
      have := fresh_default (c := P1.m.cls) tyB
      rw [htB] at this
      simpa [preparedCellV, Cell.setSlot, Cell.withEntry, Array.getElem?_setIfInBounds, bC, bS, bP, bC.symm, bS.symm, bP.symm, defaultValue] using this, fun _ _ => rfl⟩
  obtain ⟨tm, methC, cdC, kC, vm₁, hnC, -, -, -, -, -, -, -, hW₁, st1⟩ := Steps.initColdS (tb := p.tables) (e := e) (below := below) (s := s) (U := T0) X0.here hexec X0.warmed hpl hown (t := Bundle.initS X) rfl rfl (Bundle.fit_spec hcls).2
    (a' (.methodLink own ic (Bundle.initS X)) (by simp [jv_nA])) (h (.instanceMethod (Bundle.initS X)) (by simp [jv_nA, Bundle.passSAtoms])) (bytes := jv_six) (maxL := 2) (h (.code (Bundle.initS X) jv_six 2 none) (by simp [jv_nA, Bundle.passSAtoms]))
    (f := F0 m pc ls (.ref sa :: .ref q :: .ref q :: rest)) rfl (a := q) (msg := .ref sa) (rest := .ref q :: rest) rfl (by rw [hb]; exact hd6)
  cases Option.some.inj (hnC.symm.trans hP1m)
  have X₁ := X0.noted hW₁
  obtain ⟨vm₂, X₂, st2⟩ := X₁.ctorMessageOffV hexec (g := F0 m pc ls (.ref q :: rest)) rfl hml T L Z LZ M LM (P1 :: P2 :: Ps)
    (fun P hP => by
      rcases List.mem_cons.mp hP with rfl | hP
      · exact L1
      · rcases List.mem_cons.mp hP with rfl | hP
        · exact L2
        · exact hL P hP) ⟨hlink1, hlink2, hlink⟩ (u0 := u0) (sen := sen) (self := q) (msg := .ref sa) rfl (cell := freshCell P1.m.cls kX) (cellS := cellS)
    (by show T0.heap[q]? = _; rw [hT0]; exact hcell) (fun _ => by simp) (by simp) rfl rfl hsel0 hselF hcellS hneS hknownS (by rw [hkeep _ (by simp)]; exact hu0) (by rw [hkeep _ (by simp)]; exact hsen)
    (Takes.of_laid hk hord tyC (by rw [Y0.causeType]; rfl)) (Takes.of_laid hk hord tyS (by rw [Y0.stackType]; exact fits_refV_array _ u0)) (Takes.of_laid hk hord tyP (by rw [Y0.suppType]; exact fits_refV_object _ sen))
    (Takes.of_laid hk hord tyM (by rw [Y0.msgType]; rfl)) Y0.objLocals hskip htr (ig := .invokespecial ic) (len := 3) [] (by rw [hb]; exact hd6)
    (by simp only [List.length_cons, hlen]; omega) (by simp only [List.length_cons, hlen]; simpa [JFrame.monitorRoom] using hRl)
  obtain ⟨hwalk, hrun, hended, hWU, hsame⟩ := X₂.athrowLeaves hexec (g := F0 m (pc + 3) ls (.ref q :: rest)) rfl rfl rfl (fun y hy => by
    rw [Array.isEmpty_iff.mp hout] at hy
    cases hy) (a := q) (rest := rest) rfl (by rw [hb]; exact hd9) (hlocks := hlocks)
  have hlt : q < ((T0.setVm vm₁).setVm vm₂).heap.size := (Array.getElem?_eq_some_iff.mp (show T0.heap[q]? = _ by rw [hT0]; exact hcell)).1
  have hU := heapAt_setCell_self (s := (T0.setVm vm₁).setVm vm₂) (plainBareV T.toThrowableT (freshCell P1.m.cls kX) q u0 sen (.ref sa)) hlt
  have hsame2 := hsame.weaken (l' := []) (fun y hy hlt' => by
    exfalso
    have hb9 : y.base = q := by
      simp only [List.nil_append, List.mem_cons, List.not_mem_nil, or_false] at hy
      rcases hy with rfl | rfl | rfl | rfl | rfl <;> rfl
    rw [hb9] at hlt'
    exact Nat.not_lt.mpr hnew hlt') (Nat.le_refl _) (Nat.le_refl _)
  obtain ⟨g1, g2⟩ := jv_same0 hsame2
  exact ⟨_, st1 _ (fun acts => by rw [doInvoke_state]; exact st2 _ hwalk), .threw q, hrun, hended, ⟨q, rfl, hnew, ⟨_, hU, hfoundP, rfl⟩, g1, g2⟩, hWU, hsame2⟩
end JVN
theorem jv_ownN {args : Array Value} {s : State} {c0 : Cond} {ic idx : Nat} {X Y : String} {names : List String} (hts : ∀ w ∈ c0 :: jv_LT, w.before args s = true) (hT : jv_th s) (oa : ∀ w ∈ (jv_nA "LabelVault" ic X Y idx names).filter vx_no, w ∈ jv_LT ∨ w ∈ jv_ng) : ∀ a ∈ jv_nA "LabelVault" ic X Y idx names, a.before args s = true :=
  vx_own (fun w hw => (oa w hw).elim (jv_w hts) (fun h => by
    have h1 := List.mem_filter.mp h
    have h2 : w.faceAtom = true ∧ w.onTables = true := by simpa using h1.2
    exact va_tabs h2.2 rfl (hT.2.1 w h))) (vx_isRefq hT.1.1.1) (vx_isRefq hT.1.2.1) hT.1.1.2.word hT.1.2.2.word
