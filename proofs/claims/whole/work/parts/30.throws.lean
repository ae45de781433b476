/-! Methods that throw: what is left behind, the contract, the throw itself, a call that throws on, a throw that is caught. -/
def jv_FE (first t : State) (L : List Loc) (k n : Nat) : Prop := first.WarmedH t.vm ∧ first.sameButNew ({ t with vm := first.vm } : State) L k n
/-- x is a new object of the class X; all that was there is as it was -/
def jv_exc (st t : State) (x : Nat) (X : String) : Prop := st.heap.size ≤ x ∧ (∃ ce : Cell, t.heap[x]? = some ce ∧ st.vm.findClass X = some ce.cls ∧ ce.vm = .none) ∧ st.heap.size ≤ t.heap.size ∧ ∀ q : Nat, q < st.heap.size → t.heap[q]? = st.heap[q]?
def jv_Qx (X : String) : Array Value → State → Outcome → State → Prop := fun _ st o t => ∃ x, o = .threw x ∧ jv_exc st t x X
def jv_MX (l : Launch) (y : MethodName) (ws : List Cond) (rm : Room) (Pc : Array Value → State → Prop) (X : String) (mc ms : Nat) : Prop :=
  MetFree l y (headSpec ws rm) Pc (fun _ _ _ _ _ => True) (fun a st o t => jv_Qx X a st o t ∧ jv_FE st t [] mc ms)
def jv_MQ (below : List Frame) (X : String) (a : Array Value) (s : State) (mc ms : Nat) : State → Prop := fun t =>
  ∃ o, t.status = .running ∧ Ended t below o ∧ jv_Qx X a s o t ∧ jv_FE s t [] mc ms
theorem jv_same0 {s s' : State} {k n : Nat} (h : s.sameButNew s' [] k n) : s.heap.size ≤ s'.heap.size ∧ ∀ q : Nat, q < s.heap.size → s'.heap[q]? = s.heap[q]? := by
  obtain ⟨-, h1, -, -, -, h2⟩ := h
  refine ⟨h1, fun q hq => ?_⟩
  obtain ⟨c', e1, e2, e3, e4⟩ := h2 q s.heap[q] (Array.getElem?_eq_getElem hq)
  have e5 : c'.slots = (s.heap[q]).slots := Array.ext_getElem? (fun i => e4 i (by simp))
  rw [e1, Array.getElem?_eq_getElem hq, e2, e5]
theorem jv_MX.ofW {l : Launch} {y : MethodName} {ws ws' : List Cond} {rm : Room} {Pc : Array Value → State → Prop} {X : String} {mc ms : Nat} {cc : ByteArray} {maxL : Nat} {ret : Option FieldType}
    (hy : plainName y.cls = true) (hw : ws = Cond.code y cc maxL ret :: ws')
    (body : ∀ p e s m args below meth c s₁, BodyLoose p l y (headSpec ws rm) cc maxL ret e s m args below meth c s₁ → c.maxLocals = maxL → Pc args s →
      W p l e (headSpec ws rm).room s m args below meth c s.heap [] 0 0 (jv_MQ below X args s mc ms) (entryFrame m args maxL)) : jv_MX l y ws rm Pc X mc ms := by
  refine MetFree.of_bodyS (code := cc) (maxLocals := maxL) (ret := ret) hy ?_ ?_
  · intro args s m h hn
    obtain ⟨meth, c, h1, h2, h3, h4, h5, h6, -, -⟩ := Cond.code_spec hn (atoms_spec (ws := ws) h _ (by rw [hw]; exact List.mem_cons_self))
    exact ⟨meth, c, h1, h2, h3, h4, h5, h6⟩
  · intro p e s m args below meth c s₁ B hml hP _
    have hh0 : s₁.heap = s.heap := by rw [B.state]; rfl
    obtain ⟨t, a1, o, b1, b2, b3, b4⟩ := body p e s m args below meth c s₁ B hml hP s₁ hh0 (Stand.of_body B)
    exact ⟨t, o, a1, b1, b2, b3, b4⟩
/-- the start of a call whose callee throws -/
def jv_PX (X : String) (mc ms : Nat) : Pt → Array Value → Addr → Pt → Prop := fun A a x B =>
  ∃ (g : JFrame) (mk : MethodId) (t : State), B.U.heap = t.heap ∧ B.U.vm = t.vm ∧ jv_exc (A.U.calling g mk a) t x X ∧ B.locs = A.locs ++ [] ∧ B.cells = A.cells + mc ∧ B.slots = A.slots + ms
def jv_BX (l : Launch) (R : Room) (p : Program) (e : Env) (below : List Frame) (s : State) (sargs : Array Value) (y : MethodName) (len W : Nat)
    (Pre : Pt → Array Value → Prop) (Post : Pt → Array Value → Addr → Pt → Prop) : Prop :=
  ∀ (m : MethodId) (meth : Method) (c : Code) (A : Pt) (g : JFrame) (ig : Instr) (mk : MethodId) (a : Array Value),
    Stand p l e R s m sargs below meth c A.U A.locs A.cells A.slots → g.method = m → g.locals.size = c.maxLocals → decode c.code g.pc = .ok (ig, len) →
    2 * g.monitorRoom + (g.stack.map fun v => v.category).sum ≤ W → A.U.methodNamed? y = some mk → Pre A a →
    ∃ (x : Addr) (B : Pt), Stand p l e R s m sargs below meth c B.U B.locs B.cells B.slots ∧ Post A a x B ∧
      Steps p.tables e below (doInvoke e (A.U.setTop g) [] mk a).1 ((B.U.setTop g).pushFrame (.throwing x))
theorem jv_BX.of {l : Launch} {R : Room} {p : Program} {e : Env} {below : List Frame} {s : State} {sargs : Array Value} {y : MethodName} {len W : Nat} {ws : List Cond} {rm : Room} {Pc : Array Value → State → Prop} {X : String} {mc ms : Nat} {bytes : ByteArray} {maxL : Nat} {ret : Option FieldType}
    (hM : jv_MX l y ws rm Pc X mc ms) (hblind : FrameBlind Pc) (hrc : rm.cells = mc) (hrs : rm.slots = ms)
    (hframes : rm.frames + 1 ≤ R.frames) (hlocals : W + (maxL + 11) + rm.locals ≤ R.locals)
    (hws : ∀ w ∈ ws, ∀ a' U, s.WarmedH U.vm → w.before a' U = true) (hcode : Cond.code y bytes maxL ret ∈ ws) (hinit : ∀ a' U, s.WarmedH U.vm → (Cond.initialized y.cls).before a' U = true) :
    jv_BX l R p e below s sargs y len W (PreOf R mc ms Pc) (jv_PX X mc ms) := by
  intro m meth c A g ig mk a X0 hg hsize hdg hW hn hp
  obtain ⟨U, Ls, c0, s0⟩ := A
  obtain ⟨hp1, hp2, hp3⟩ := hp
  dsimp only [Pt.U, Pt.locs, Pt.cells, Pt.slots] at hp1 hp2 hp3 X0 hn ⊢
  have h1 : (headSpec ws rm).pre.before a U = true := atoms_intro fun w hw => hws w hw _ _ X0.warmed
  have h2 : (Cond.code y bytes maxL ret).before a U = true := hws _ hcode _ _ X0.warmed
  have h3 := hinit a U X0.warmed
  obtain ⟨methY, cY, hmY, hcY, -, hlY, -, -, -, -⟩ := Cond.code_spec hn h2
  obtain ⟨kY, hkY, -⟩ := className_of_methodNamed hn
  have hinitY : kY.init = .initialized := Cond.initialized_spec (findClass_of_methodNamed hn) hkY h3
  have h : At U g.method c below := by rw [hg]; exact X0.here
  have happ : (headSpec ws rm).appliesLoose y e.platform (U.calling g mk a) = true :=
    Spec.appliesLoose_calling (g := g) h hdg hn hkY hinitY
      (X0.room_calling (g := g) (R' := (headSpec ws rm).room) hsize hmY hcY hframes (by rw [hlY]; exact Nat.le_trans (Nat.add_le_add_right (Nat.add_le_add_right hW _) _) hlocals) (by rw [show (headSpec ws rm).room.cells = mc from hrc]; exact hp1) (by rw [show (headSpec ws rm).room.slots = ms from hrs]; exact hp2)) h1
  obtain ⟨mid, hmid⟩ := h.above
  have hfr : (U.setTop g).frames = (.java g :: mid) ++ below := by rw [State.frames_setTop' g h.top, hmid]; rfl
  obtain ⟨o, s₂, hsteps, -, hend, hq⟩ := Steps.callFree hM p X0.admits X0.cas X0.clock (acts := []) hfr happ (hblind _ _ _ _ hp3) trivial
  rw [State.frames_setTop' g h.top] at hend
  obtain ⟨⟨x, ho, hx⟩, hW₂, hsb⟩ := hq
  subst ho
  subst hg
  obtain ⟨T', X', hWT, hsame, ht⟩ := X0.outOfThrown (g := g) rfl (mk := mk) (a := a) (t := s₂) (x := x) (L := []) (k := mc) (n := ms) (by rw [← X0.tail]; exact hend) hW₂ hsb
  refine ⟨x, ⟨T', Ls ++ [], c0 + mc, s0 + ms⟩, X', ⟨g, mk, s₂, ?_, ?_, hx, rfl, rfl, rfl⟩, ?_⟩
  · show T'.heap = s₂.heap
    rw [ht]
    simp [State.pushFrame, State.setFrames, State.setTop, State.modifyTopJava]
  · show T'.vm = s₂.vm
    rw [ht]
    simp [State.pushFrame, State.setFrames, State.setTop, State.modifyTopJava]
  · show Steps p.tables e below _ ((T'.setTop g).pushFrame (.throwing x))
    rw [← ht]
    exact hsteps
section JVX
variable {p : Program} {l : Launch} {e : Env} {R : Room} {s : State} {m : MethodId} {args : Array Value} {below : List Frame} {meth : Method} {c : Code} {H : Heap} {locs : List Loc} {cells slots : Nat} {Q : State → Prop}
/-- a throw is on its way over the frame g: the machine comes to a state with Q -/
def jv_WT (p : Program) (l : Launch) (e : Env) (R : Room) (s : State) (m : MethodId) (args : Array Value) (below : List Frame) (meth : Method) (c : Code) (H : Heap) (locs : List Loc) (cells slots : Nat) (Q : State → Prop) (g : JFrame) (x : Nat) : Prop :=
  ∀ T : State, T.heap = H → Stand p l e R s m args below meth c T locs cells slots → ∃ t, Steps p.tables e below ((T.setTop g).pushFrame (.throwing x)) t ∧ Q t
/-- what a caller knows of the object that was thrown -/
def jv_ob9 (s : State) (H H1 : Heap) (x : Nat) (X : String) : Prop := H.size ≤ x ∧ (∃ ce : Cell, H1[x]? = some ce ∧ s.vm.findClass X = some ce.cls ∧ ce.vm = .none) ∧ H.size ≤ H1.size ∧ ∀ q : Nat, q < H.size → H1[q]? = H[q]?
theorem jv_leave {X : String} {x pc : Nat} {ls : Array Slot} {st : List Value} (hout : c.exceptionTable.isEmpty = true) (hlocks : meth.locks = false) (hob : jv_ob9 s s.heap H x X) : jv_WT p l e R s m args below meth c H [] cells slots (jv_MQ below X args s cells slots) (F0 m pc ls st) x := by
  intro T hT X0
  obtain ⟨st, h1, h2, h3, h4⟩ := X0.leaveThrown x (g := F0 m pc ls st) rfl rfl rfl (fun y hy => by
    rw [Array.isEmpty_iff.mp hout] at hy
    cases hy) (hlocks := hlocks)
  obtain ⟨g1, ⟨ce, g2, g3, g4⟩, g5, g6⟩ := hob
  have hU : (T.setFrames (.throwing x :: below)).heap = H := hT
  exact ⟨_, st, .threw x, h1, h2, ⟨x, rfl, g1, ⟨ce, by rw [hU]; exact g2, g3, g4⟩, by rw [hU]; exact g5, fun q hq => by rw [hU]; exact g6 q hq⟩, h3, h4⟩
variable {y : MethodName} {bytes cc : ByteArray} {maxL nL mc ms n index : Nat} {ret : Option FieldType} {ws : List Cond} {rm : Room} {Pc : Array Value → State → Prop} {X : String} {Ts : List Cond} {own C : String} {b : Addr} {As rest : List Value} {g : JFrame}
theorem jv_ob_of {A : Pt} {g0 : JFrame} {mk : MethodId} {a : Array Value} {t : State} {x : Nat} (hH : A.U.heap = H) (hA : s.vm.Alike A.U.vm) (h : jv_exc (A.U.calling g0 mk a) t x X) : jv_ob9 s H t.heap x X := by
  obtain ⟨h1, ⟨ce, h2, h3, h4⟩, h5, h6⟩ := h
  have e1 : (A.U.calling g0 mk a).heap = H := hH
  have e2 : (A.U.calling g0 mk a).vm = A.U.vm := rfl
  rw [e1] at h1 h5 h6
  rw [e2, hA.findClass] at h3
  exact ⟨h1, ⟨ce, h2, h3, h4⟩, h5, h6⟩
theorem jv_bx (cb : CallB R s args own index y bytes maxL ret ws rm mc ms n) (hM : jv_MX l y ws rm Pc X mc ms) (hbl : FrameBlind Pc) : jv_BX l R p e below s args y 3 8 (PreOf R mc ms Pc) (jv_PX X mc ms) := by
  obtain ⟨hrc, hrs, hfr, hlo, hws, hcw, -, hini, -⟩ := cb
  exact jv_BX.of (bytes := bytes) (maxL := maxL) (ret := ret) hM hbl hrc hrs hfr hlo hws hcw (fun a' U hW => word_at hW (Or.inl (by first | rfl | simp [Cond.onTables, Cond.keeps, Cond.steady])) hini)
/-- invokestatic of a method that throws -/
theorem jv_xS (S : CallFix p m c cc nL s args Ts own) (hM : jv_MX l y ws rm Pc X mc ms) (cw : CallB R s args own index y bytes maxL ret ws rm mc ms n ∧ (Cond.static y).before args s = true) (hp : PreS s H Pc As)
    (hg : g.method = m) (hn : As.length = n) (hsize : g.locals.size = nL) (hstack : g.stack = As.reverse ++ rest) (hW : 2 * g.monitorRoom + (rest.map fun v => v.category).sum ≤ 8) (hdg : decode cc g.pc = .ok (.invokestatic index, 3)) (hf : cells + mc ≤ R.cells ∧ slots + ms ≤ R.slots)
    (kk : ∀ (x : Nat) (H1 : Heap), jv_ob9 s H H1 x X → jv_WT p l e R s m args below meth c H1 locs (cells + mc) (slots + ms) Q { g with stack := rest } x) : W p l e R s m args below meth c H locs cells slots Q g := by
  have hK : jv_BX l R p e below s args y 3 8 (PreOf R mc ms Pc) (jv_PX X mc ms) := jv_bx cw.1 hM hp.1
  obtain ⟨⟨-, -, -, -, -, -, hcode, hini, hy, hlen, hl⟩, hstt⟩ := cw
  obtain ⟨hx, hb, hml, ho, -⟩ := S
  intro T hT X0
  obtain ⟨mk, hnamed⟩ := Cond.code_named hcode
  obtain ⟨methM, cM, hmethM, -, -, -, -, -, -, hsigM⟩ := Cond.code_spec hnamed hcode
  have hstatic : methM.isStatic = true := Cond.static_spec hnamed hmethM hstt
  obtain ⟨kP, hkP, -⟩ := className_of_methodNamed hnamed
  have hinitP : kP.init = .initialized := Cond.initialized_spec (findClass_of_methodNamed hnamed) hkP hini
  obtain ⟨vm₁, X₁, hstep₁⟩ := X0.invokestatic hx ho hl hnamed hmethM hstatic hkP hinitP hy (g := g) hg (argsL := As) (rest := rest) (hn.trans (hlen _ hsigM)) hstack (by rw [hb]; exact hdg)
  obtain ⟨x, B, X', ⟨g0, mk0, t, e1, e2, hex, e3, e4, e5⟩, hsteps⟩ := hK m meth c ⟨T.setVm vm₁, locs, cells, slots⟩ { g with stack := rest } (.invokestatic index) mk As.toArray X₁ hg (hsize.trans hml.symm) (by rw [hb]; exact hdg) hW (X₁.named hnamed) ⟨hf.1, hf.2, hp.2 (T.setVm vm₁) hT X₁.warmed⟩
  obtain ⟨U', l2, c2, s2⟩ := B
  dsimp only [Pt.U, Pt.locs, Pt.cells, Pt.slots] at X' e1 e2 e3 e4 e5 hsteps
  subst e3; subst e4; subst e5
  rw [List.append_nil] at X'
  have hob : jv_ob9 s H t.heap x X := jv_ob_of (A := ⟨T.setVm vm₁, locs, cells, slots⟩) hT X₁.warmed.alike hex
  obtain ⟨t2, a1, b1⟩ := kk x t.heap hob U' e1 X'
  exact ⟨t2, hstep₁ _ fun acts => by rw [doInvoke_state]; exact hsteps.trans a1, b1⟩
/-- invokevirtual of a method that throws -/
theorem jv_xV (S : CallFix p m c cc nL s args Ts own) (hM : jv_MX l y ws rm Pc X mc ms) (cw : CallW R s args own C index y bytes maxL ret ws rm mc ms n) (hp : PreV s H C b Pc As)
    (hg : g.method = m) (hn : As.length = n) (hsize : g.locals.size = nL) (hstack : g.stack = As.reverse ++ .ref b :: rest) (hW : 2 * g.monitorRoom + (rest.map fun v => v.category).sum ≤ 8) (hdg : decode cc g.pc = .ok (.invokevirtual index, 3)) (hf : cells + mc ≤ R.cells ∧ slots + ms ≤ R.slots)
    (kk : ∀ (x : Nat) (H1 : Heap), jv_ob9 s H H1 x X → jv_WT p l e R s m args below meth c H1 locs (cells + mc) (slots + ms) Q { g with stack := rest } x) : W p l e R s m args below meth c H locs cells slots Q g := by
  have hK : jv_BX l R p e below s args y 3 8 (PreOf R mc ms Pc) (jv_PX X mc ms) := jv_bx cw.1 hM hp.1
  obtain ⟨⟨-, -, -, -, -, -, hcode, -, hy, hlen, hl⟩, hinst, hsel⟩ := cw
  obtain ⟨hx, hb, hml, ho, -⟩ := S
  obtain ⟨-, ⟨cellB, hcB, hoB, hclB⟩, hPc⟩ := hp
  intro T hT X0
  obtain ⟨mk, methM, hnamed, hmethM, hstM, habM⟩ := Cond.instanceMethod_spec hinst
  obtain ⟨methM', cM, hmethM', -, -, -, -, -, -, hsigM⟩ := Cond.code_spec hnamed hcode
  cases hmethM.symm.trans hmethM'
  obtain ⟨c2, r2, m2, q1, q2, q3, q4, kP, hkP, hkPi⟩ := Cond.selects_spec hsel
  cases hclB.symm.trans q1
  cases (State.methodFound?_of_named hnamed hy).symm.trans q2
  cases hnamed.symm.trans q3
  have hselP : selectMethod e.platform s.vm cellB.cls mk = .method mk := by rw [Launch.admits_selectMethod X0.admits]; exact q4
  obtain ⟨vm₁, X₁, hstep₁⟩ := X0.invokevirtual hx ho hl hnamed hmethM hstM hkP hkPi hy (a := b) (cell := cellB) (by rw [hT]; exact hcB)
    (fun z h => by rw [h] at hoB; cases hoB) hselP hmethM habM hkP hkPi (g := g) hg (argsL := As) (rest := rest) (hn.trans (hlen _ hsigM)) hstack (by rw [hb]; exact hdg)
  obtain ⟨x, B, X', ⟨g0, mk0, t, e1, e2, hex, e3, e4, e5⟩, hsteps⟩ := hK m meth c ⟨T.setVm vm₁, locs, cells, slots⟩ { g with stack := rest } (.invokevirtual index) mk (Value.ref b :: As).toArray X₁ hg (hsize.trans hml.symm) (by rw [hb]; exact hdg) hW (X₁.named hnamed) ⟨hf.1, hf.2, hPc (T.setVm vm₁) hT X₁.warmed⟩
  obtain ⟨U', l2, c2, s2⟩ := B
  dsimp only [Pt.U, Pt.locs, Pt.cells, Pt.slots] at X' e1 e2 e3 e4 e5 hsteps
  subst e3; subst e4; subst e5
  rw [List.append_nil] at X'
  have hob : jv_ob9 s H t.heap x X := jv_ob_of (A := ⟨T.setVm vm₁, locs, cells, slots⟩) hT X₁.warmed.alike hex
  obtain ⟨t2, a1, b1⟩ := kk x t.heap hob U' e1 X'
  exact ⟨t2, hstep₁ _ fun acts => by rw [doInvoke_state]; exact hsteps.trans a1, b1⟩
/-- invokespecial of an exception's constructor with a text, and athrow, out of the method -/
theorem jv_throwS {pc q sa : Nat} {ls : Array Slot} {names : List String} {ic : Nat} {cX : ClassId} {kX : Class} (hexec : p.tables.exec = Jvm.exec) (hb : c.code = cc) (hl9 : l.stackTraces = false) (hlocks : meth.locks = false) (hml : ls.size = c.maxLocals) (hown : s.vm.findClass own = some m.cls)
    (hcls : Bundle.fit X = true) (hnames : ∀ n ∈ names, Bundle.fit n = true) (h : ∀ a ∈ Bundle.ownAtoms own ic X names, a.before args s = true) (hout : c.exceptionTable.isEmpty = true)
    (hfound : s.vm.findClass X = some cX) (hkX : s.vm.classes[cX]? = some kX) (hcell : H[q]? = some (freshCell cX kX)) (hnew : s.heap.size ≤ q)
    (hd6 : decode cc pc = .ok (.invokespecial ic, 3)) (hd9 : decode cc (pc + 3) = .ok (.athrow, 1)) (hRf : names.length + 3 < R.frames) (hRl : ((Value.ref q :: rest).map fun v => v.category).sum + (13 * (names.length + 1) + 42) ≤ R.locals) :
    W p l e R s m args below meth c H [] cells slots (jv_MQ below X args s cells slots) (F0 m pc ls (.ref sa :: .ref q :: .ref q :: rest)) := by
  intro T hT X0
  have htr : e.platform.stackTraces = false := (show e.platform.stackTraces = l.stackTraces by rw [X0.admits.platform]).trans hl9
  obtain ⟨U, st, h1, h2, h3, h4, ce, h5, h6⟩ := X0.ctorThrowS hexec htr hown hcls hnames h (fun x hx => by cases hx) hfound hkX (by rw [hT]; exact hcell) hnew (msg := .ref sa) rfl (g := F0 m pc ls (.ref sa :: .ref q :: .ref q :: rest)) rfl hml rfl rfl (rest := rest) rfl (by rw [hb]; exact hd6) (by rw [hb]; exact hd9) (fun y hy => by
    rw [Array.isEmpty_iff.mp hout] at hy
    cases hy) hRf (by simpa [JFrame.monitorRoom] using hRl) (hlocks := hlocks)
  obtain ⟨g1, g2⟩ := jv_same0 h4
  exact ⟨U, st, .threw q, h1, h2, ⟨q, rfl, hnew, ⟨ce, h5, h6.cls, h6.vm⟩, g1, g2⟩, h3, h4⟩
end JVX
theorem jv_fresh {H : Heap} {cC : ClassId} {kC : Class} : (H.push { cls := cC, slots := kC.instanceTypes.map defaultValue, vm := .none })[H.size]? = some (freshCell cC kC) := by
  simp [freshCell]
