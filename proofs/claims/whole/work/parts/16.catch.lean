/-! a call that may throw, in a method whose table catches what it throws; the catch types cold or warm -/
/-- the search through the table: each row covers; it takes the object, or the search goes on -/
def fc_ok (e : Env) (s₀ : State) (f : JFrame) (thrown : ClassId) (pc : Nat) : List ExceptionTableEntry → Prop
  | [] => False
  | x :: t => covers x f.pc = true ∧ x.catchType ≠ 0 ∧ ∃ c, s₀.vm.ClassLinks e.platform f.method.cls x.catchType c ∧ ((s₀.vm.assignable thrown c = true ∧ x.handlerPc = pc) ∨ (s₀.vm.assignable thrown c = false ∧ fc_ok e s₀ f thrown pc t))
theorem fc_step {Q : Handler → Pre} {E : CtlPost} {e : Env} {d : Bool} {acts : List Action} {s : State} {f : JFrame} {a : Addr} {x : ExceptionTableEntry} {t : List ExceptionTableEntry} {c : ClassId} {cell : Cell} (hx : covers x f.pc = true) (h0 : x.catchType ≠ 0)
    (hl : s.vm.ClassLinks e.platform f.method.cls x.catchType c) (hcell : s.heap[a]? = some cell) (hobj : ∀ k, cell.vm ≠ .statics k)
    (hk : ∃ k, s.vm.classes[cell.cls]? = some k) (hc : ∃ k, s.vm.classes[c]? = some k) :
    wp (findHandler.go f a (x :: t)) Q E e d acts s ↔ if s.vm.assignable cell.cls c = true then Q (.found x.handlerPc) d acts (s.setVm (s.vm.noted f.method.cls x.catchType (.cls c))) else wp (findHandler.go f a t) Q E e d acts (s.setVm (s.vm.noted f.method.cls x.catchType (.cls c))) := by
  simp only [covers] at hx
  obtain ⟨ha, ht⟩ := (resolveClass_links e.toSetting hl).op (op := VmOp.resolveClass f.method.cls x.catchType) rfl
  have hal : s.vm.Alike (s.vm.noted f.method.cls x.catchType (.cls c)) := (Vm.Alike.refl s.vm).noted _ _ _
  obtain ⟨k1, hk1⟩ := hk
  obtain ⟨k2, hk2⟩ := hc
  obtain ⟨k1', hk1', -⟩ := hal.2.2 _ _ hk1
  obtain ⟨k2', hk2', -⟩ := hal.2.2 _ _ hk2
  have hfe : (s.vm.noted f.method.cls x.catchType (.cls c)).assignable cell.cls c = s.vm.assignable cell.cls c := by rw [hal.assignable]
  cases hfit : s.vm.assignable cell.cls c with
  | true =>
    rw [hfit] at hfe
    simp [findHandler.go, hx, h0, ha, ht, hcell, hobj, hk1', hk2', hfe, VmOp.dirties, VmOp.acts]
  | false =>
    rw [hfit] at hfe
    simp [findHandler.go, hx, h0, ha, ht, hcell, hobj, hk1', hk2', hfe, VmOp.dirties, VmOp.acts]
theorem fc_search {e : Env} {s₀ : State} {f : JFrame} {a : Addr} {cell : Cell} {pc : Nat} (hobj : ∀ k, cell.vm ≠ .statics k) (hk0 : ∃ k, s₀.vm.classes[cell.cls]? = some k) :
    ∀ (es : List ExceptionTableEntry) (S : State), s₀.WarmedH S.vm → S.heap[a]? = some cell → fc_ok e s₀ f cell.cls pc es →
      ∃ vm', s₀.WarmedH vm' ∧ ∀ (Q : Handler → Pre) (E : CtlPost) (d : Bool) (acts : List Action), wp (findHandler.go f a es) Q E e d acts S ↔ Q (.found pc) d acts (S.setVm vm') := by
  obtain ⟨k0, hk0⟩ := hk0
  intro es
  induction es with
  | nil => intro S _ _ h; exact h.elim
  | cons x t ih =>
    intro S hW hcell h
    obtain ⟨hx, h0, c, hl, hh⟩ := h
    obtain ⟨k0', hk0', -⟩ := hW.alike.2.2 _ _ hk0
    obtain ⟨dk, _, _, kt, hd, _, _, _, _, hkt, _, hopen⟩ := hl.here
    obtain ⟨kt', hkt', -⟩ := hW.alike.2.2 _ _ hkt
    have hN := hW.noted hd hopen (State.rightAt_cls hl)
    rcases hh with ⟨hf, hp⟩ | ⟨hf, hr⟩
    · refine ⟨_, hN, fun Q E d acts => ?_⟩
      rw [fc_step hx h0 (hW.classLinks hl) hcell hobj ⟨k0', hk0'⟩ ⟨kt', hkt'⟩, if_pos (by rw [hW.alike.assignable]; exact hf), hp]
    · obtain ⟨vm', hW', hq⟩ := ih (S.setVm (S.vm.noted f.method.cls x.catchType (.cls c))) hN hcell hr
      refine ⟨vm', hW', fun Q E d acts => ?_⟩
      rw [fc_step hx h0 (hW.classLinks hl) hcell hobj ⟨k0', hk0'⟩ ⟨kt', hkt'⟩, if_neg (by rw [hW.alike.assignable, hf]; decide)]
      exact hq Q E d acts
theorem fc_caught {p : Program} {l : Launch} {e : Env} {R : Room} {s : State} {m : MethodId} {args : Array Value} {below : List Frame} {meth : Method} {c : Code} {T : State} {locs : List Loc} {cells slots : Nat}
    (X : Stand p l e R s m args below meth c T locs cells slots) (a : Addr) {g : JFrame} (hg : g.method = m) {cell : Cell} (hcell : T.heap[a]? = some cell) (hobj : ∀ k, cell.vm ≠ .statics k) (hk0 : ∃ k, s.vm.classes[cell.cls]? = some k) {pc : Nat}
    (hok : fc_ok e s g cell.cls pc c.exceptionTable.toList) :
    ∃ vm', Stand p l e R s m args below meth c (T.setVm vm') locs cells slots ∧ ∀ target, Steps p.tables e below ((T.setVm vm').setTop { g with pc := pc, stack := [.ref a] }) target → Steps p.tables e below ((T.setTop g).pushFrame (.throwing a)) target := by
  subst hg
  obtain ⟨vm', hW', hq⟩ := fc_search (e := e) (s₀ := s) (f := g) (a := a) (pc := pc) hobj hk0 c.exceptionTable.toList ((T.setTop g).pushFrame (.throwing a)) X.warmed hcell hok
  refine ⟨vm', X.noted hW', fun target hrest => ?_⟩
  have h := X.here
  have hfind : ∀ (Q : Handler → Pre) (E : CtlPost) (d : Bool) (acts : List Action), wp (findHandler g a) Q E e d acts ((T.setTop g).pushFrame (.throwing a)) ↔ Q (.found pc) d acts (((T.setTop g).pushFrame (.throwing a)).setVm vm') := fun Q E d acts => by
    rw [W.findHandler_eq (s := (T.setTop g).pushFrame (.throwing a)) (meth := meth) (code := c) X.method' X.code]
    exact hq Q E d acts
  have hst : (stepThrowing e ((T.setTop g).pushFrame (.throwing a)) a (.java g :: ((T.setTop g).frames.tail))).1 = (((T.setTop g).pushFrame (.throwing a)).setVm vm').setFrames (.java { g with pc := pc, stack := [.ref a] } :: ((T.setTop g).frames.tail)) := by
    simp only [stepThrowing, searchFrame, vmDo]
    generalize hr : Sem.go _ e false [] _ = res
    obtain ⟨as, rfl, ha⟩ := Sem.eq_ok_of hr (a := Handler.found pc) (s' := ((T.setTop g).pushFrame (.throwing a)).setVm vm') (acts' := []) (by simp [hfind _ _ _ _])
    rfl
  obtain ⟨hgo, hw⟩ := h.throwing a
  refine Steps.head hgo hw ?_
  obtain ⟨g₀, hg⟩ := Option.isSome_iff_exists.mp h.top
  obtain ⟨r, hr⟩ := State.topJava?_eq_some.mp hg
  have htail : (T.setTop g).frames.tail = T.frames.tail := by rw [State.frames_setTop' g h.top]; rfl
  rw [htail] at hst
  rw [stepThread_throwing (frames_entered h.top _), hst]
  have hr' : (T.setVm vm').frames = .java g₀ :: r := hr
  rw [State.setTop_of_frames _ hr'] at hrest
  have hflip : ∀ (u : State) (v : Vm) (F G : List Frame), ((u.setFrames F).setVm v).setFrames G = (u.setVm v).setFrames G := fun u v F G => by
    have h1 : (u.setFrames F).setVm v = (u.setVm v).setFrames F := rfl
    rw [h1, State.setFrames_setFrames]
  rw [hr, List.tail_cons, State.pushFrame, hflip, State.setTop_of_frames _ hr, hflip]
  exact hrest
/-- words on casts that catching needs -/
def cs_ok (U : State) : Prop := (∀ k, va_Nw (.castable (fx_name k) (fx_name k)) U) ∧ ∃ c1 c0, U.vm.findClass (fx_name 1) = some c1 ∧ U.vm.findClass (fx_name 0) = some c0 ∧ U.vm.assignable c1 c0 = false
theorem cs_ok.warm {s U : State} (hW : s.WarmedH U.vm) (h : cs_ok s) : cs_ok U :=
  ⟨fun k => va_Nw.warmC hW (h.1 k), by
    obtain ⟨c1, c0, h1, h2, h3⟩ := h.2
    exact ⟨c1, c0, by rw [hW.alike.findClass]; exact h1, by rw [hW.alike.findClass]; exact h2, by rw [hW.alike.assignable]; exact h3⟩⟩
theorem cs_ok.same {u U : State} (hv : U.vm = u.vm) (h : cs_ok u) : cs_ok U := ⟨fun k => va_tabs rfl hv.symm (h.1 k), by rw [hv]; exact h.2⟩
theorem fc_hit {e : Env} {s : State} {args : Array Value} {f : JFrame} {own : String} {k ct a b pc : Nat} {t : List ExceptionTableEntry} {thrown : ClassId} (hpl : e.platform.magicAccessors = ({} : Platform).magicAccessors) (hown : s.vm.findClass own = some f.method.cls) (hlink : (Cond.classLink own ct (fx_name k)).before args s = true) (hcs : cs_ok s) (hth : s.vm.findClass (fx_name k) = some thrown) (h0 : ct ≠ 0) (hcov : covers ⟨a, b, pc, ct⟩ f.pc = true) : fc_ok e s f thrown pc (⟨a, b, pc, ct⟩ :: t) := by
  obtain ⟨c', hc', hcl⟩ := Cond.classLink_spec hown hlink e.platform hpl
  obtain ⟨c3, c4, hc3, hc4, hasg⟩ := Cond.castable_spec (hcs.1 k)
  cases hc'.symm.trans hth
  cases hc3.symm.trans hth
  cases hc4.symm.trans hth
  exact ⟨hcov, h0, _, hcl, Or.inl ⟨hasg, rfl⟩⟩
theorem fc_miss {e : Env} {s : State} {args : Array Value} {f : JFrame} {own : String} {ct a b pc pc' : Nat} {t : List ExceptionTableEntry} {thrown : ClassId} (hpl : e.platform.magicAccessors = ({} : Platform).magicAccessors) (hown : s.vm.findClass own = some f.method.cls) (hlink : (Cond.classLink own ct (fx_name 0)).before args s = true) (hcs : cs_ok s) (hth : s.vm.findClass (fx_name 1) = some thrown) (h0 : ct ≠ 0) (hcov : covers ⟨a, b, pc', ct⟩ f.pc = true) (hr : fc_ok e s f thrown pc t) : fc_ok e s f thrown pc (⟨a, b, pc', ct⟩ :: t) := by
  obtain ⟨c', hc', hcl⟩ := Cond.classLink_spec hown hlink e.platform hpl
  obtain ⟨c1, c0, h1, h2, h3⟩ := hcs.2
  cases h1.symm.trans hth
  cases h2.symm.trans hc'
  exact ⟨hcov, h0, _, hcl, Or.inr ⟨h3, hr⟩⟩
abbrev cPreH (D : va_G) (cl : List vw_C) (tys : List (ClassId × FieldType)) (wc : va_W) (sz : Nat) (av : List Value) : Array Value → State → Prop := va_Pc av (fun U => U.heap.size = sz ∧ va_P D cl wc U.heap ∧ va_K D cl tys U ∧ va_D (fun _ => True) wc ∧ fx_ok (va_A wc sz) U U.heap ∧ cs_ok U)
theorem cPreH_blind {D : va_G} {cl : List vw_C} {tys : List (ClassId × FieldType)} {wc : va_W} {sz : Nat} {av : List Value} : FrameBlind (cPreH D cl tys wc sz av) := fun a U g mk q => by
  obtain ⟨q0, q1, qP, qK, qD, qX, qC⟩ := q
  exact ⟨q0, q1, qP, va_K.moved (u := U) (U := U.calling g mk a) (Vm.Alike.refl U.vm) qK, qD, fx_ok.same (u := U) rfl qX, cs_ok.same (u := U) rfl qC⟩
theorem Met.ofWith {l : Launch} {y : MethodName} {ws ws' : List Cond} {rm : Room} {Pc : Array Value → State → Prop} {Qc : Array Value → State → Outcome → State → Prop} {mc ms : Nat} {free : Addr → Prop} {cc : ByteArray} {maxL : Nat} {ret : Option FieldType} {hs : List (Nat × Nat × Nat × Nat)}
    (hy : plainName y.cls = true) (hw : ws = Cond.codeWith y cc maxL ret hs :: ws')
    (body : ∀ p e s m args below meth c s₁, BodyLoose p l y (headSpec ws rm) cc maxL ret e s m args below meth c s₁ → c.maxLocals = maxL → c.exceptionTable.toList = tableOf hs → Pc args s →
      W p l e (headSpec ws rm).room s m args below meth c s.heap [] 0 0 (MQ below Qc args s mc ms free) (entryFrame m args maxL)) : Met l y ws rm Pc Qc mc ms free := by
  refine MetFree.of_bodyS (code := cc) (maxLocals := maxL) (ret := ret) hy ?_ ?_
  · intro args s m h hn
    obtain ⟨m', meth, c, h0, h1, h2, h3, h4, -, h5, h6, -⟩ := Cond.codeWith_spec (atoms_spec (ws := ws) h _ (by rw [hw]; exact List.mem_cons_self))
    cases hn.symm.trans h0
    exact ⟨meth, c, h1, h2, h3, h4, h5, h6⟩
  · intro p e s m args below meth c s₁ B hml hP _
    have hh0 : s₁.heap = s.heap := by rw [B.state]; rfl
    obtain ⟨m', meth', c', h0, h1, h2, h3, h4, hT, h5, h6, -⟩ := Cond.codeWith_spec (atoms_spec (ws := ws) B.pre _ (by rw [hw]; exact List.mem_cons_self))
    cases B.named.symm.trans h0
    cases B.method.symm.trans h1
    cases (Stand.of_body B).code.symm.trans h2
    obtain ⟨t, a1, o, b1, b2, b3⟩ := body p e s m args below meth c s₁ B hml (by rw [← hT, table_eq]) hP s₁ hh0 (Stand.of_body B)
    exact ⟨t, o, a1, b1, b2, ⟨b3.1, b3.2⟩⟩
section XC
variable {p : Program} {l : Launch} {e : Env} {R : Room} {s : State} {m : MethodId} {args : Array Value} {below : List Frame} {meth : Method} {c : Code} {H : Heap} {locs : List Loc} {cells slots : Nat} {Q : State → Prop}
variable {pc : Nat} {ls : Array Slot} {rest st0 : List Value} {A : Nat → Prop} {mc ms : Nat}
variable {y : MethodName} {bytes cc : ByteArray} {maxL nL n index : Nat} {ret : Option FieldType} {wy : List Cond} {rm : Room} {Ts : List Cond} {own C : String} {b : Addr} {As : List Value} {D : va_G} {cl : List vw_C} {tys : List (ClassId × FieldType)} {wc wr ws : va_W}
theorem xc_thrown {S : Type} {thr : Nat → S → Prop} {w1 : S → va_W} {T T' st₀ t : State} {L : List Loc} {x : Addr}
    (hP : va_P D cl ws H) (hD : va_D A ws) (hS : va_S A s.heap H locs) (hA : ∀ q, s.heap.size ≤ q → A q) (isC isR : List Nat) (hC : isC.map (fun i => ws[i]?) = wc.map some) (hR : isR.map (fun i => ws[i]?) = wr.map some) (hnR : va_nd isR = true) (hdis : ∀ i ∈ isR, i ∉ isC)
    (h0 : st₀.heap = H) (hW0 : s.WarmedH st₀.vm) (X' : Stand p l e R s m args below meth c T' (locs ++ L) (cells + mc) (slots + ms)) (hL : ∀ q ∈ L, va_A wc H.size q.base) (e1 : T'.heap = t.heap)
    (hx : XT thr (fun u t => cAft D cl tys (va_A wc H.size) (w1 u) t) st₀ (.threw x) t) (hF : va_F (va_A wc H.size) st₀ t)
    (kx : ∀ (x k : Nat) (u : S) (H1 : Heap) (locs1 : List Loc), thr k u → va_P D cl (wr ++ w1 u) H1 → va_D A (wr ++ w1 u) → va_S A s.heap H1 locs1 →
      ∃ hp : Nat, (∀ thrown, e.platform.magicAccessors = ({} : Platform).magicAccessors → s.vm.findClass (fx_name k) = some thrown → fc_ok e s (F0 m pc ls rest) thrown hp c.exceptionTable.toList) ∧ W p l e R s m args below meth c H1 locs1 (cells + mc) (slots + ms) Q (F0 m hp ls [.ref x]))
    (hgo : ∀ target, Steps p.tables e below ((T'.setTop (F0 m pc ls rest)).pushFrame (.throwing x)) target → Steps p.tables e below (T.setTop (F0 m pc ls st0)) target) :
    ∃ t, Steps p.tables e below (T.setTop (F0 m pc ls st0)) t ∧ Q t := by
  have hFc := va_free (wc := wc) hD hS hA isC hC
  have hS1 := x_S hD hS hA isC hC h0 hL e1 hF
  obtain ⟨x', k, u, ce, ho, hth, ⟨hP1, hK1, hD1⟩, hsz, hce, hcv, hcc⟩ := hx
  cases ho
  obtain ⟨hz, hk⟩ := hF
  rw [h0] at hz hk hsz
  rw [← e1] at hz hk hP1 hce
  obtain ⟨hP', hD'⟩ := va_join (wr := wr) (w1 := w1 u) hP hD isC isR hC hR hnR hdis hk hFc hP1 hD1
  obtain ⟨hp, hfc, hW⟩ := kx x k u T'.heap (locs ++ L) hth hP' hD' hS1
  have hcc' : s.vm.findClass (fx_name k) = some ce.cls := by rw [← hW0.alike.findClass]; exact hcc
  have hok := hfc ce.cls (by rw [X'.admits.platform]) hcc'
  have hk0 : ∃ k, s.vm.classes[ce.cls]? = some k := by
    cases hes : c.exceptionTable.toList with
    | nil => rw [hes] at hok; exact hok.elim
    | cons z t =>
      exact Vm.classAt_of_findClass hcc'
  obtain ⟨vm', X2, hst⟩ := fc_caught X' x (g := F0 m pc ls rest) rfl hce (fun k h => by rw [hcv] at h; cases h) hk0 hok
  obtain ⟨t2, a1, b1⟩ := hW (T'.setVm vm') rfl X2
  exact ⟨t2, hgo _ (hst _ a1), b1⟩
end XC
