def fx_name : Nat → String
  | 0 => "java/lang/IllegalArgumentException"
  | 1 => "java/lang/IllegalStateException"
  | 2 => "java/util/NoSuchElementException"
  | _ => "java/lang/IndexOutOfBoundsException"
def fx_msgs : List (Nat × String) := [(66, "the tape has no room for 20 bytes"), (80, "the tape has no such length"), (83, "the tape is empty"), (86, "too many documents or bytes"), (108, "only 1 to 200 bytes can be sought"), (119, "it does not stand so often"), (129, "it does not stand in so many documents"), (135, "only 0 to 3 bytes may be others"), (162, "there are not so many suffixes"), (186, "only 2 to 20 wheres"), (202, "only 2 to 64 documents"), (208, "there are not so many pieces"), (232, "the document has not so many phrases"), (240, "not so many bytes were told"), (248, "nothing was sought"), (250, "the document is not indexed"), (255, "there is no such where")]
def fx_decl : List MethodName := [Bundle.initS "java/lang/RuntimeException", Bundle.initS "java/lang/Exception", Bundle.initS Bundle.tN]
def fx_src (w : Cond) : Prop := w ∈ WT ∨ w = .laysStatic Bundle.tN "UNASSIGNED_STACK" Bundle.steD ∨ w = .laysStatic Bundle.tN "SUPPRESSED_SENTINEL" Bundle.listD ∨ ∃ x ∈ fx_decl, w = .declares x
/-- a static of Throwable that holds a reference or null; its cell isn't one of A -/
def fx_S (n d : String) (A : Nat → Prop) (U : State) (H : Heap) : Prop := ∃ (c : ClassId) (k : Class) (i : Nat) (f : Field) (a : Nat) (cell : Cell) (v : Value), U.vm.findClass Bundle.tN = some c ∧ U.fieldFound? Bundle.tN n d = some (c, k, i, f) ∧ f.isStatic = true ∧ k.statics = some a ∧ H[a]? = some cell ∧ cell.vm.isStatics = true ∧ cell.cls = c ∧ f.slot < cell.slots.size ∧ k.staticTypes[f.slot]? = some f.type ∧ cell.slots[f.slot]? = some v ∧ v.isRef = true ∧ ¬ A a
theorem fx_S.of {args : Array Value} {s : State} {n d : String} {A : Nat → Prop} (h1 : (Cond.laysStatic Bundle.tN n d).before args s = true) (h2 : (Cond.isRef (.static Bundle.tN n d)).before args s = true) (hA : ∀ a : Nat, a < s.heap.size → ¬ A a) : fx_S n d A s s.heap := by
  obtain ⟨c, k, i, f, a, cell, hc, hi, hst, ha, hcell, hs, hcls, hlt, hty⟩ := Cond.laysStatic_spec h1
  obtain ⟨v, hv, hr⟩ := Cond.isRef_spec h2
  obtain ⟨hst', a', cell', ha', hcell', -, hslot⟩ := Term.static_spec hi hv
  cases ha.symm.trans ha'
  cases hcell.symm.trans hcell'
  exact ⟨c, k, i, f, a, cell, v, hc, hi, hst, ha, hcell, hs, hcls, hlt, hty, hslot, hr, hA a (Array.getElem?_eq_some_iff.mp hcell).1⟩
theorem fx_S.moved {n d : String} {A : Nat → Prop} {u U : State} {H : Heap} (hvm : u.vm.Alike U.vm) (h : fx_S n d A u H) : fx_S n d A U H := by
  obtain ⟨c, k, i, f, a, cell, v, h1, h2, h3, h4, h5, h6, h7, h8, h9, h10⟩ := h
  obtain ⟨k', hi', he⟩ := State.fieldFound?_setVm hvm h2
  exact ⟨c, k', i, f, a, cell, v, by rw [hvm.findClass]; exact h1, hi', h3, by rw [he]; exact h4, h5, h6, h7, h8, by rw [he]; exact h9, h10⟩
theorem fx_S.kept {n d : String} {A : Nat → Prop} {U : State} {H H1 : Heap} (h : fx_S n d A U H) (hq : ∀ a : Nat, a < H.size → ¬ A a → H1[a]? = H[a]?) : fx_S n d A U H1 := by
  obtain ⟨c, k, i, f, a, cell, v, h1, h2, h3, h4, h5, h6, h7, h8, h9, h10, h11, h12⟩ := h
  exact ⟨c, k, i, f, a, cell, v, h1, h2, h3, h4, by rw [hq a (Array.getElem?_eq_some_iff.mp h5).1 h12]; exact h5, h6, h7, h8, h9, h10, h11, h12⟩
theorem fx_S.narrow {n d : String} {A B : Nat → Prop} {U : State} {H : Heap} (h : fx_S n d A U H) (hAB : ∀ q, B q → A q) : fx_S n d B U H := by
  obtain ⟨c, k, i, f, a, cell, v, h1, h2, h3, h4, h5, h6, h7, h8, h9, h10, h11, h12⟩ := h
  exact ⟨c, k, i, f, a, cell, v, h1, h2, h3, h4, h5, h6, h7, h8, h9, h10, h11, fun z => h12 (hAB a z)⟩
theorem fx_S.lays {n d : String} {A : Nat → Prop} {U : State} {args : Array Value} (h : fx_S n d A U U.heap) : (Cond.laysStatic Bundle.tN n d).before args U = true := by
  obtain ⟨c, k, i, f, a, cell, v, h1, h2, h3, h4, h5, h6, h7, h8, h9, h10, h11, h12⟩ := h
  simp [Cond.before, Cond.holds, Cond.value, h1, h2, h3, h4, h5, h6, h7, h8, h9]
theorem fx_S.ref {n d : String} {A : Nat → Prop} {U : State} {args : Array Value} (h : fx_S n d A U U.heap) : (Cond.isRef (.static Bundle.tN n d)).before args U = true := by
  obtain ⟨c, k, i, f, a, cell, v, h1, h2, h3, h4, h5, h6, h7, h8, h9, h10, h11, h12⟩ := h
  have he : (Term.static Bundle.tN n d).eval args U none [] U = some v := by
    simp [Term.eval, State.fieldNamed?, h2, h3, h4, h5, h6, h10]
  simp only [Cond.before, Cond.holds, Cond.value, he]
  cases v <;> first | rfl | cases h11
/-- all that throwing needs beyond the words -/
def fx_ok (A : Nat → Prop) (U : State) (H : Heap) : Prop := fx_S "UNASSIGNED_STACK" Bundle.steD A U H ∧ fx_S "SUPPRESSED_SENTINEL" Bundle.listD A U H ∧ (∀ x ∈ fx_decl, va_Nw (.declares x) U) ∧ ∀ q ∈ fx_msgs, ∃ a, vk_R "SuffixIndex" q.1 q.2 a U
theorem fx_ok.to {A B : Nat → Prop} {s U : State} {H : Heap} {locs : List Loc} (h : fx_ok A s s.heap) (hS : va_S A s.heap H locs) (hAB : ∀ q, B q → A q) (hW : s.WarmedH U.vm) : fx_ok B U H :=
  ⟨((h.1.kept hS.2.1).narrow hAB).moved hW.alike, ((h.2.1.kept hS.2.1).narrow hAB).moved hW.alike, fun x hx => va_Nw.warmD hW (h.2.2.1 x hx), fun q hq => (h.2.2.2 q hq).imp fun _ z => vk_R.warm hW z⟩
theorem fx_have {A : Nat → Prop} {s : State} {args : Array Value} {ws : List Cond} (hw : ∀ w ∈ WT, w.before args s = true) (h : fx_ok A s s.heap) (hs : ∀ w ∈ ws, fx_src w) : ∀ w ∈ ws, w.before args s = true := by
  intro w hx0
  rcases hs w hx0 with q | rfl | rfl | ⟨x, hx, rfl⟩
  · exact hw w q
  · exact h.1.lays
  · exact h.2.1.lays
  · exact va_Nw.use rfl (h.2.2.1 x hx)
theorem fx_haveS {A : Nat → Prop} {s : State} {args : Array Value} (h : fx_ok A s s.heap) : ∀ w ∈ fx_stat, w.before args s = true := by
  intro w hx
  simp only [fx_stat, List.mem_cons, List.not_mem_nil, or_false] at hx
  rcases hx with rfl | rfl
  · exact h.1.ref
  · exact h.2.1.ref
abbrev cPreX (D : va_G) (cl : List vw_C) (tys : List (ClassId × FieldType)) (wc : va_W) (sz : Nat) (av : List Value) : Array Value → State → Prop := va_Pc av (fun U => U.heap.size = sz ∧ va_P D cl wc U.heap ∧ va_K D cl tys U ∧ va_D (fun _ => True) wc ∧ fx_ok (va_A wc sz) U U.heap)
theorem fx_ok.same {A : Nat → Prop} {u U : State} {H : Heap} (hv : U.vm = u.vm) (h : fx_ok A u H) : fx_ok A U H :=
  ⟨h.1.moved (by rw [hv]; exact Vm.Alike.refl _), h.2.1.moved (by rw [hv]; exact Vm.Alike.refl _), fun x hx => va_tabs rfl hv.symm (h.2.2.1 x hx), fun q hq => (h.2.2.2 q hq).imp fun _ z => vk_R.same hv z⟩
theorem cPreX_blind {D : va_G} {cl : List vw_C} {tys : List (ClassId × FieldType)} {wc : va_W} {sz : Nat} {av : List Value} : FrameBlind (cPreX D cl tys wc sz av) := fun a U g mk q => by
  obtain ⟨q0, q1, qP, qK, qD, qX⟩ := q
  exact ⟨q0, q1, qP, va_K.moved (u := U) (U := U.calling g mk a) (Vm.Alike.refl U.vm) qK, qD, fx_ok.same (u := U) rfl qX⟩
/-- what a method that may throw has at its entry -/
def XC (l : Launch) (A : Nat → Prop) (s : State) (c : Code) : Prop := l.flags = pinnedFlags ++ [noTraceFlag] ∧ fx_ok A s s.heap ∧ (∀ q, A q → ∀ cell, s.heap[q]? = some cell → cell.vm.isStatics = false) ∧ c.exceptionTable.isEmpty = true
theorem x_plain {D : va_G} {cl : List vw_C} {ws : va_W} {H : Heap} (hP : va_P D cl ws H) : ∀ q, va_A ws H.size q → ∀ cell, H[q]? = some cell → cell.vm.isStatics = false := by
  intro q hq cell hc
  rcases hq with ⟨k, e, hk⟩ | hq
  · have h := hP k (q, e) hk
    cases e with
    | inl x =>
      have h : H[q]? = some (vp_cell x.1 x.2) := h
      have e : cell = vp_cell x.1 x.2 := Option.some.inj (hc.symm.trans h)
      rw [e]
      obtain ⟨cA, n, f | f | f | f | f⟩ := x <;> rfl
    | inr o =>
      obtain ⟨r, h1, cell', h2, h3, h4, h5⟩ := h
      have e : cell = cell' := Option.some.inj (hc.symm.trans h2)
      rw [e, h4]; rfl
  · have := (Array.getElem?_eq_some_iff.mp hc).1
    omega
/-- how a call that throws ends -/
def XT {S : Type} (thr : Nat → S → Prop) (B : S → State → Prop) (st : State) (oc : Outcome) (t : State) : Prop := ∃ (x k : Nat) (u : S) (ce : Cell), oc = .threw x ∧ thr k u ∧ B u t ∧ st.heap.size ≤ x ∧ t.heap[x]? = some ce ∧ ce.vm = .none ∧ st.vm.findClass (fx_name k) = some ce.cls
def XQi {S : Type} (post : Int32 → S → Prop) (thr : Nat → S → Prop) (B : S → State → Prop) (A : Nat → Prop) : Array Value → State → Outcome → State → Prop := fun _ st oc t => ((∃ (r : Int32) (u : S), oc = .returned (some (.int r)) ∧ post r u ∧ B u t) ∨ XT thr B st oc t) ∧ va_F A st t
def XQl {S : Type} (post : Int64 → S → Prop) (thr : Nat → S → Prop) (B : S → State → Prop) (A : Nat → Prop) : Array Value → State → Outcome → State → Prop := fun _ st oc t => ((∃ (r : Int64) (u : S), oc = .returned (some (.long r)) ∧ post r u ∧ B u t) ∨ XT thr B st oc t) ∧ va_F A st t
def XQv {S : Type} (post : S → Prop) (thr : Nat → S → Prop) (B : S → State → Prop) (A : Nat → Prop) : Array Value → State → Outcome → State → Prop := fun _ st oc t => ((∃ (u : S), oc = .returned none ∧ post u ∧ B u t) ∨ XT thr B st oc t) ∧ va_F A st t
theorem mqx_le {below : List Frame} {Qc : Array Value → State → Outcome → State → Prop} {a : Array Value} {s : State} {mc ms MC MS : Nat} {free : Addr → Prop} (h1 : mc ≤ MC) (h2 : ms ≤ MS) (t : State) (h : MQX below Qc a s mc ms free t) : MQX below Qc a s MC MS free t := by
  obtain ⟨o, q1, q2, q3, L, ⟨q4, q5⟩, q6⟩ := h
  exact ⟨o, q1, q2, q3, L, ⟨q4, q5.mono h1 h2⟩, q6⟩

set_option maxRecDepth 100000 in
theorem m_10 : Cond.initialized "java/lang/Throwable" ∈ WT := wt_t1 10 rfl rfl
set_option maxRecDepth 100000 in
theorem m_1076 : Cond.instantiable "java/lang/IndexOutOfBoundsException" 6 ∈ WT := wt_t5 116 rfl rfl
set_option maxRecDepth 100000 in
theorem m_1078 : Cond.selects "java/lang/IndexOutOfBoundsException" ⟨"java/lang/Throwable", "fillInStackTrace", "(I)Ljava/lang/Throwable;"⟩ ⟨"java/lang/Throwable", "fillInStackTrace", "(I)Ljava/lang/Throwable;"⟩ ∈ WT := wt_t5 118 rfl rfl
set_option maxRecDepth 100000 in
theorem m_1079 : Cond.lays "java/lang/IndexOutOfBoundsException" "java/lang/Throwable" "cause" "Ljava/lang/Throwable;" ∈ WT := wt_t5 119 rfl rfl
set_option maxRecDepth 100000 in
theorem m_1080 : Cond.lays "java/lang/IndexOutOfBoundsException" "java/lang/Throwable" "stackTrace" "[Ljava/lang/StackTraceElement;" ∈ WT := wt_t5 120 rfl rfl
set_option maxRecDepth 100000 in
theorem m_1081 : Cond.lays "java/lang/IndexOutOfBoundsException" "java/lang/Throwable" "suppressedExceptions" "Ljava/util/List;" ∈ WT := wt_t5 121 rfl rfl
set_option maxRecDepth 100000 in
theorem m_1082 : Cond.lays "java/lang/IndexOutOfBoundsException" "java/lang/Throwable" "detailMessage" "Ljava/lang/String;" ∈ WT := wt_t5 122 rfl rfl
set_option maxRecDepth 100000 in
theorem m_1083 : Cond.lays "java/lang/IndexOutOfBoundsException" "java/lang/Throwable" "backtrace" "Ljava/lang/Object;" ∈ WT := wt_t5 123 rfl rfl
set_option maxRecDepth 100000 in
theorem m_1085 : Cond.methodLink "SuffixIndex" 242 ⟨"java/lang/IndexOutOfBoundsException", "<init>", "(Ljava/lang/String;)V"⟩ ∈ WT := wt_t5 125 rfl rfl
set_option maxRecDepth 100000 in
theorem m_326 : Cond.instantiable "java/lang/IllegalArgumentException" 6 ∈ WT := wt_t2 86 rfl rfl
set_option maxRecDepth 100000 in
theorem m_334 : Cond.selects "java/lang/IllegalArgumentException" ⟨"java/lang/Throwable", "fillInStackTrace", "(I)Ljava/lang/Throwable;"⟩ ⟨"java/lang/Throwable", "fillInStackTrace", "(I)Ljava/lang/Throwable;"⟩ ∈ WT := wt_t2 94 rfl rfl
set_option maxRecDepth 100000 in
theorem m_335 : Cond.selects "java/lang/IllegalArgumentException" ⟨"java/lang/Throwable", "fillInStackTrace", "()Ljava/lang/Throwable;"⟩ ⟨"java/lang/Throwable", "fillInStackTrace", "()Ljava/lang/Throwable;"⟩ ∈ WT := wt_t2 95 rfl rfl
set_option maxRecDepth 100000 in
theorem m_336 : Cond.lays "java/lang/IllegalArgumentException" "java/lang/Throwable" "cause" "Ljava/lang/Throwable;" ∈ WT := wt_t2 96 rfl rfl
set_option maxRecDepth 100000 in
theorem m_337 : Cond.lays "java/lang/Throwable" "java/lang/Throwable" "cause" "Ljava/lang/Throwable;" ∈ WT := wt_t2 97 rfl rfl
set_option maxRecDepth 100000 in
theorem m_338 : Cond.lays "java/lang/IllegalArgumentException" "java/lang/Throwable" "stackTrace" "[Ljava/lang/StackTraceElement;" ∈ WT := wt_t2 98 rfl rfl
set_option maxRecDepth 100000 in
theorem m_339 : Cond.lays "java/lang/Throwable" "java/lang/Throwable" "stackTrace" "[Ljava/lang/StackTraceElement;" ∈ WT := wt_t2 99 rfl rfl
set_option maxRecDepth 100000 in
theorem m_340 : Cond.lays "java/lang/IllegalArgumentException" "java/lang/Throwable" "suppressedExceptions" "Ljava/util/List;" ∈ WT := wt_t2 100 rfl rfl
set_option maxRecDepth 100000 in
theorem m_341 : Cond.lays "java/lang/Throwable" "java/lang/Throwable" "suppressedExceptions" "Ljava/util/List;" ∈ WT := wt_t2 101 rfl rfl
set_option maxRecDepth 100000 in
theorem m_342 : Cond.lays "java/lang/IllegalArgumentException" "java/lang/Throwable" "detailMessage" "Ljava/lang/String;" ∈ WT := wt_t2 102 rfl rfl
set_option maxRecDepth 100000 in
theorem m_343 : Cond.lays "java/lang/Throwable" "java/lang/Throwable" "detailMessage" "Ljava/lang/String;" ∈ WT := wt_t2 103 rfl rfl
set_option maxRecDepth 100000 in
theorem m_344 : Cond.lays "java/lang/IllegalArgumentException" "java/lang/Throwable" "backtrace" "Ljava/lang/Object;" ∈ WT := wt_t2 104 rfl rfl
set_option maxRecDepth 100000 in
theorem m_345 : Cond.lays "java/lang/Throwable" "java/lang/Throwable" "backtrace" "Ljava/lang/Object;" ∈ WT := wt_t2 105 rfl rfl
set_option maxRecDepth 100000 in
theorem m_346 : Cond.fieldLink "java/lang/Throwable" 198 "java/lang/Throwable" "backtrace" "Ljava/lang/Object;" ∈ WT := wt_t2 106 rfl rfl
set_option maxRecDepth 100000 in
theorem m_347 : Cond.superclass "java/lang/Throwable" "java/lang/Object" ∈ WT := wt_t2 107 rfl rfl
set_option maxRecDepth 100000 in
theorem m_348 : Cond.instanceMethod ⟨"java/lang/Throwable", "<init>", "()V"⟩ ∈ WT := wt_t2 108 rfl rfl
set_option maxRecDepth 100000 in
theorem m_349 : Cond.code ⟨"java/lang/Throwable", "<init>", "()V"⟩ prog_26_method_1_code 1 none ∈ WT := wt_t2 109 rfl rfl
set_option maxRecDepth 100000 in
theorem m_35 : Cond.instanceMethod ⟨"java/lang/Object", "<init>", "()V"⟩ ∈ WT := wt_t1 35 rfl rfl
set_option maxRecDepth 100000 in
theorem m_350 : Cond.methodLink "java/lang/Throwable" 1 ⟨"java/lang/Object", "<init>", "()V"⟩ ∈ WT := wt_t2 110 rfl rfl
set_option maxRecDepth 100000 in
theorem m_351 : Cond.fieldLink "java/lang/Throwable" 13 "java/lang/Throwable" "UNASSIGNED_STACK" "[Ljava/lang/StackTraceElement;" ∈ WT := wt_t2 111 rfl rfl
set_option maxRecDepth 100000 in
theorem m_353 : Cond.fieldLink "java/lang/Throwable" 20 "java/lang/Throwable" "SUPPRESSED_SENTINEL" "Ljava/util/List;" ∈ WT := wt_t2 113 rfl rfl
set_option maxRecDepth 100000 in
theorem m_355 : Cond.methodLink "java/lang/Throwable" 27 ⟨"java/lang/Throwable", "fillInStackTrace", "()Ljava/lang/Throwable;"⟩ ∈ WT := wt_t2 115 rfl rfl
set_option maxRecDepth 100000 in
theorem m_356 : Cond.instanceMethod ⟨"java/lang/Throwable", "fillInStackTrace", "()Ljava/lang/Throwable;"⟩ ∈ WT := wt_t2 116 rfl rfl
set_option maxRecDepth 100000 in
theorem m_359 : Cond.selects "java/lang/IllegalStateException" ⟨"java/lang/Throwable", "fillInStackTrace", "()Ljava/lang/Throwable;"⟩ ⟨"java/lang/Throwable", "fillInStackTrace", "()Ljava/lang/Throwable;"⟩ ∈ WT := wt_t2 119 rfl rfl
set_option maxRecDepth 100000 in
theorem m_36 : Cond.code ⟨"java/lang/Object", "<init>", "()V"⟩ object_method_1_code 1 none ∈ WT := wt_t1 36 rfl rfl
set_option maxRecDepth 100000 in
theorem m_360 : Cond.selects "java/lang/IndexOutOfBoundsException" ⟨"java/lang/Throwable", "fillInStackTrace", "()Ljava/lang/Throwable;"⟩ ⟨"java/lang/Throwable", "fillInStackTrace", "()Ljava/lang/Throwable;"⟩ ∈ WT := wt_t2 120 rfl rfl
set_option maxRecDepth 100000 in
theorem m_361 : Cond.selects "java/util/NoSuchElementException" ⟨"java/lang/Throwable", "fillInStackTrace", "()Ljava/lang/Throwable;"⟩ ⟨"java/lang/Throwable", "fillInStackTrace", "()Ljava/lang/Throwable;"⟩ ∈ WT := wt_t2 121 rfl rfl
set_option maxRecDepth 100000 in
theorem m_362 : Cond.codeSync ⟨"java/lang/Throwable", "fillInStackTrace", "()Ljava/lang/Throwable;"⟩ prog_26_method_18_code 1 (some (.object "java/lang/Throwable")) ∈ WT := wt_t2 122 rfl rfl
set_option maxRecDepth 100000 in
theorem m_363 : Cond.methodLink "java/lang/Throwable" 202 ⟨"java/lang/Throwable", "fillInStackTrace", "(I)Ljava/lang/Throwable;"⟩ ∈ WT := wt_t2 123 rfl rfl
set_option maxRecDepth 100000 in
theorem m_365 : Cond.instanceMethod ⟨"java/lang/Throwable", "fillInStackTrace", "(I)Ljava/lang/Throwable;"⟩ ∈ WT := wt_t2 125 rfl rfl
set_option maxRecDepth 100000 in
theorem m_367 : Cond.native ⟨"java/lang/Throwable", "fillInStackTrace", "(I)Ljava/lang/Throwable;"⟩ ∈ WT := wt_t2 127 rfl rfl
set_option maxRecDepth 100000 in
theorem m_586 : Cond.instanceMethod ⟨"java/lang/IllegalArgumentException", "<init>", "(Ljava/lang/String;)V"⟩ ∈ WT := wt_t3 106 rfl rfl
set_option maxRecDepth 100000 in
theorem m_587 : Cond.code ⟨"java/lang/IllegalArgumentException", "<init>", "(Ljava/lang/String;)V"⟩ prog_15_method_2_code 2 none ∈ WT := wt_t3 107 rfl rfl
set_option maxRecDepth 100000 in
theorem m_588 : Cond.methodLink "java/lang/IllegalArgumentException" 7 ⟨"java/lang/RuntimeException", "<init>", "(Ljava/lang/String;)V"⟩ ∈ WT := wt_t3 108 rfl rfl
set_option maxRecDepth 100000 in
theorem m_589 : Cond.instanceMethod ⟨"java/lang/RuntimeException", "<init>", "(Ljava/lang/String;)V"⟩ ∈ WT := wt_t3 109 rfl rfl
set_option maxRecDepth 100000 in
theorem m_590 : Cond.code ⟨"java/lang/RuntimeException", "<init>", "(Ljava/lang/String;)V"⟩ prog_20_method_2_code 2 none ∈ WT := wt_t3 110 rfl rfl
set_option maxRecDepth 100000 in
theorem m_591 : Cond.methodLink "java/lang/RuntimeException" 7 ⟨"java/lang/Exception", "<init>", "(Ljava/lang/String;)V"⟩ ∈ WT := wt_t3 111 rfl rfl
set_option maxRecDepth 100000 in
theorem m_592 : Cond.instanceMethod ⟨"java/lang/Exception", "<init>", "(Ljava/lang/String;)V"⟩ ∈ WT := wt_t3 112 rfl rfl
set_option maxRecDepth 100000 in
theorem m_593 : Cond.code ⟨"java/lang/Exception", "<init>", "(Ljava/lang/String;)V"⟩ prog_14_method_2_code 2 none ∈ WT := wt_t3 113 rfl rfl
set_option maxRecDepth 100000 in
theorem m_594 : Cond.methodLink "java/lang/Exception" 7 ⟨"java/lang/Throwable", "<init>", "(Ljava/lang/String;)V"⟩ ∈ WT := wt_t3 114 rfl rfl
set_option maxRecDepth 100000 in
theorem m_595 : Cond.instanceMethod ⟨"java/lang/Throwable", "<init>", "(Ljava/lang/String;)V"⟩ ∈ WT := wt_t3 115 rfl rfl
set_option maxRecDepth 100000 in
theorem m_596 : Cond.code ⟨"java/lang/Throwable", "<init>", "(Ljava/lang/String;)V"⟩ prog_26_method_2_code 2 none ∈ WT := wt_t3 116 rfl rfl
set_option maxRecDepth 100000 in
theorem m_598 : Cond.fieldLink "java/lang/Throwable" 31 "java/lang/Throwable" "detailMessage" "Ljava/lang/String;" ∈ WT := wt_t3 118 rfl rfl
set_option maxRecDepth 100000 in
theorem m_599 : Cond.fieldLink "java/lang/Throwable" 7 "java/lang/Throwable" "cause" "Ljava/lang/Throwable;" ∈ WT := wt_t3 119 rfl rfl
set_option maxRecDepth 100000 in
theorem m_600 : Cond.fieldLink "java/lang/Throwable" 17 "java/lang/Throwable" "stackTrace" "[Ljava/lang/StackTraceElement;" ∈ WT := wt_t3 120 rfl rfl
set_option maxRecDepth 100000 in
theorem m_601 : Cond.fieldLink "java/lang/Throwable" 24 "java/lang/Throwable" "suppressedExceptions" "Ljava/util/List;" ∈ WT := wt_t3 121 rfl rfl
set_option maxRecDepth 100000 in
theorem m_646 : Cond.instanceMethod ⟨"java/lang/IndexOutOfBoundsException", "<init>", "(Ljava/lang/String;)V"⟩ ∈ WT := wt_t3 166 rfl rfl
set_option maxRecDepth 100000 in
theorem m_647 : Cond.code ⟨"java/lang/IndexOutOfBoundsException", "<init>", "(Ljava/lang/String;)V"⟩ prog_17_method_2_code 2 none ∈ WT := wt_t3 167 rfl rfl
set_option maxRecDepth 100000 in
theorem m_648 : Cond.methodLink "java/lang/IndexOutOfBoundsException" 7 ⟨"java/lang/RuntimeException", "<init>", "(Ljava/lang/String;)V"⟩ ∈ WT := wt_t3 168 rfl rfl
set_option maxRecDepth 100000 in
theorem m_735 : Cond.instantiable "java/lang/IllegalStateException" 6 ∈ WT := wt_t4 15 rfl rfl
set_option maxRecDepth 100000 in
theorem m_737 : Cond.selects "java/lang/IllegalStateException" ⟨"java/lang/Throwable", "fillInStackTrace", "(I)Ljava/lang/Throwable;"⟩ ⟨"java/lang/Throwable", "fillInStackTrace", "(I)Ljava/lang/Throwable;"⟩ ∈ WT := wt_t4 17 rfl rfl
set_option maxRecDepth 100000 in
theorem m_738 : Cond.lays "java/lang/IllegalStateException" "java/lang/Throwable" "cause" "Ljava/lang/Throwable;" ∈ WT := wt_t4 18 rfl rfl
set_option maxRecDepth 100000 in
theorem m_739 : Cond.lays "java/lang/IllegalStateException" "java/lang/Throwable" "stackTrace" "[Ljava/lang/StackTraceElement;" ∈ WT := wt_t4 19 rfl rfl
set_option maxRecDepth 100000 in
theorem m_740 : Cond.lays "java/lang/IllegalStateException" "java/lang/Throwable" "suppressedExceptions" "Ljava/util/List;" ∈ WT := wt_t4 20 rfl rfl
set_option maxRecDepth 100000 in
theorem m_741 : Cond.lays "java/lang/IllegalStateException" "java/lang/Throwable" "detailMessage" "Ljava/lang/String;" ∈ WT := wt_t4 21 rfl rfl
set_option maxRecDepth 100000 in
theorem m_742 : Cond.lays "java/lang/IllegalStateException" "java/lang/Throwable" "backtrace" "Ljava/lang/Object;" ∈ WT := wt_t4 22 rfl rfl
set_option maxRecDepth 100000 in
theorem m_744 : Cond.methodLink "SuffixIndex" 68 ⟨"java/lang/IllegalStateException", "<init>", "(Ljava/lang/String;)V"⟩ ∈ WT := wt_t4 24 rfl rfl
set_option maxRecDepth 100000 in
theorem m_745 : Cond.instanceMethod ⟨"java/lang/IllegalStateException", "<init>", "(Ljava/lang/String;)V"⟩ ∈ WT := wt_t4 25 rfl rfl
set_option maxRecDepth 100000 in
theorem m_746 : Cond.code ⟨"java/lang/IllegalStateException", "<init>", "(Ljava/lang/String;)V"⟩ prog_16_method_2_code 2 none ∈ WT := wt_t4 26 rfl rfl
set_option maxRecDepth 100000 in
theorem m_747 : Cond.methodLink "java/lang/IllegalStateException" 7 ⟨"java/lang/RuntimeException", "<init>", "(Ljava/lang/String;)V"⟩ ∈ WT := wt_t4 27 rfl rfl
set_option maxRecDepth 100000 in
theorem m_765 : Cond.methodLink "SuffixIndex" 82 ⟨"java/lang/IllegalArgumentException", "<init>", "(Ljava/lang/String;)V"⟩ ∈ WT := wt_t4 45 rfl rfl
set_option maxRecDepth 100000 in
theorem m_840 : Cond.instantiable "java/util/NoSuchElementException" 6 ∈ WT := wt_t4 120 rfl rfl
set_option maxRecDepth 100000 in
theorem m_842 : Cond.selects "java/util/NoSuchElementException" ⟨"java/lang/Throwable", "fillInStackTrace", "(I)Ljava/lang/Throwable;"⟩ ⟨"java/lang/Throwable", "fillInStackTrace", "(I)Ljava/lang/Throwable;"⟩ ∈ WT := wt_t4 122 rfl rfl
set_option maxRecDepth 100000 in
theorem m_843 : Cond.lays "java/util/NoSuchElementException" "java/lang/Throwable" "cause" "Ljava/lang/Throwable;" ∈ WT := wt_t4 123 rfl rfl
set_option maxRecDepth 100000 in
theorem m_844 : Cond.lays "java/util/NoSuchElementException" "java/lang/Throwable" "stackTrace" "[Ljava/lang/StackTraceElement;" ∈ WT := wt_t4 124 rfl rfl
set_option maxRecDepth 100000 in
theorem m_845 : Cond.lays "java/util/NoSuchElementException" "java/lang/Throwable" "suppressedExceptions" "Ljava/util/List;" ∈ WT := wt_t4 125 rfl rfl
set_option maxRecDepth 100000 in
theorem m_846 : Cond.lays "java/util/NoSuchElementException" "java/lang/Throwable" "detailMessage" "Ljava/lang/String;" ∈ WT := wt_t4 126 rfl rfl
set_option maxRecDepth 100000 in
theorem m_847 : Cond.lays "java/util/NoSuchElementException" "java/lang/Throwable" "backtrace" "Ljava/lang/Object;" ∈ WT := wt_t4 127 rfl rfl
set_option maxRecDepth 100000 in
theorem m_849 : Cond.methodLink "SuffixIndex" 121 ⟨"java/util/NoSuchElementException", "<init>", "(Ljava/lang/String;)V"⟩ ∈ WT := wt_t4 129 rfl rfl
set_option maxRecDepth 100000 in
theorem m_850 : Cond.instanceMethod ⟨"java/util/NoSuchElementException", "<init>", "(Ljava/lang/String;)V"⟩ ∈ WT := wt_t4 130 rfl rfl
set_option maxRecDepth 100000 in
theorem m_851 : Cond.code ⟨"java/util/NoSuchElementException", "<init>", "(Ljava/lang/String;)V"⟩ prog_28_method_4_code 2 none ∈ WT := wt_t4 131 rfl rfl
set_option maxRecDepth 100000 in
theorem m_852 : Cond.methodLink "java/util/NoSuchElementException" 13 ⟨"java/lang/RuntimeException", "<init>", "(Ljava/lang/String;)V"⟩ ∈ WT := wt_t4 132 rfl rfl
set_option maxRecDepth 100000 in
theorem fx_g0 : ∀ w ∈ fx_words "SuffixIndex" 82 "java/lang/IllegalArgumentException" 7 prog_15_method_2_code, fx_src w := by
  exact List.forall_mem_cons.mpr ⟨Or.inl m_10, List.forall_mem_cons.mpr ⟨Or.inl m_347, List.forall_mem_cons.mpr ⟨Or.inl m_356, List.forall_mem_cons.mpr ⟨Or.inl m_362, List.forall_mem_cons.mpr ⟨Or.inl m_365, List.forall_mem_cons.mpr ⟨Or.inl m_367, List.forall_mem_cons.mpr ⟨Or.inl m_348, List.forall_mem_cons.mpr ⟨Or.inl m_349, List.forall_mem_cons.mpr ⟨Or.inl m_35, List.forall_mem_cons.mpr ⟨Or.inl m_36, List.forall_mem_cons.mpr ⟨Or.inl m_350, List.forall_mem_cons.mpr ⟨Or.inl m_355, List.forall_mem_cons.mpr ⟨Or.inl m_363, List.forall_mem_cons.mpr ⟨Or.inl m_599, List.forall_mem_cons.mpr ⟨Or.inl m_337, List.forall_mem_cons.mpr ⟨Or.inl m_600, List.forall_mem_cons.mpr ⟨Or.inl m_339, List.forall_mem_cons.mpr ⟨Or.inl m_601, List.forall_mem_cons.mpr ⟨Or.inl m_341, List.forall_mem_cons.mpr ⟨Or.inl m_351, List.forall_mem_cons.mpr ⟨Or.inr (Or.inl rfl), List.forall_mem_cons.mpr ⟨Or.inl m_353, List.forall_mem_cons.mpr ⟨Or.inr (Or.inr (Or.inl rfl)), List.forall_mem_cons.mpr ⟨Or.inl m_343, List.forall_mem_cons.mpr ⟨Or.inl m_595, List.forall_mem_cons.mpr ⟨Or.inl m_596, List.forall_mem_cons.mpr ⟨Or.inl m_598, List.forall_mem_cons.mpr ⟨Or.inl m_343, List.forall_mem_cons.mpr ⟨Or.inl m_586, List.forall_mem_cons.mpr ⟨Or.inl m_587, List.forall_mem_cons.mpr ⟨Or.inl m_588, List.forall_mem_cons.mpr ⟨Or.inl m_589, List.forall_mem_cons.mpr ⟨Or.inr (Or.inr (Or.inr ⟨_, List.mem_of_getElem? (i := 0) rfl, rfl⟩)), List.forall_mem_cons.mpr ⟨Or.inl m_589, List.forall_mem_cons.mpr ⟨Or.inl m_590, List.forall_mem_cons.mpr ⟨Or.inl m_591, List.forall_mem_cons.mpr ⟨Or.inl m_592, List.forall_mem_cons.mpr ⟨Or.inr (Or.inr (Or.inr ⟨_, List.mem_of_getElem? (i := 1) rfl, rfl⟩)), List.forall_mem_cons.mpr ⟨Or.inl m_592, List.forall_mem_cons.mpr ⟨Or.inl m_593, List.forall_mem_cons.mpr ⟨Or.inl m_594, List.forall_mem_cons.mpr ⟨Or.inl m_595, List.forall_mem_cons.mpr ⟨Or.inr (Or.inr (Or.inr ⟨_, List.mem_of_getElem? (i := 2) rfl, rfl⟩)), List.forall_mem_cons.mpr ⟨Or.inl m_765, List.forall_mem_cons.mpr ⟨Or.inl m_326, List.forall_mem_cons.mpr ⟨Or.inl m_334, List.forall_mem_cons.mpr ⟨Or.inl m_335, List.forall_mem_cons.mpr ⟨Or.inl m_336, List.forall_mem_cons.mpr ⟨Or.inl m_338, List.forall_mem_cons.mpr ⟨Or.inl m_340, List.forall_mem_cons.mpr ⟨Or.inl m_342, List.forall_mem_cons.mpr ⟨Or.inl m_346, List.forall_mem_cons.mpr ⟨Or.inl m_345, List.forall_mem_cons.mpr ⟨Or.inl m_344, fun _ h => absurd h List.not_mem_nil⟩⟩⟩⟩⟩⟩⟩⟩⟩⟩⟩⟩⟩⟩⟩⟩⟩⟩⟩⟩⟩⟩⟩⟩⟩⟩⟩⟩⟩⟩⟩⟩⟩⟩⟩⟩⟩⟩⟩⟩⟩⟩⟩⟩⟩⟩⟩⟩⟩⟩⟩⟩⟩⟩
theorem fx_d0_0 : decode prog_15_method_2_code 0 = .ok (.aload_n 0, 1) := by decide +kernel
theorem fx_d0_1 : decode prog_15_method_2_code 1 = .ok (.aload_n 1, 1) := by decide +kernel
theorem fx_d0_2 : decode prog_15_method_2_code 2 = .ok (.invokespecial 7, 3) := by decide +kernel
theorem fx_d0_5 : decode prog_15_method_2_code 5 = .ok (.return_, 1) := by decide +kernel
set_option maxRecDepth 100000 in
theorem fx_g1 : ∀ w ∈ fx_words "SuffixIndex" 68 "java/lang/IllegalStateException" 7 prog_16_method_2_code, fx_src w := by
  exact List.forall_mem_cons.mpr ⟨Or.inl m_10, List.forall_mem_cons.mpr ⟨Or.inl m_347, List.forall_mem_cons.mpr ⟨Or.inl m_356, List.forall_mem_cons.mpr ⟨Or.inl m_362, List.forall_mem_cons.mpr ⟨Or.inl m_365, List.forall_mem_cons.mpr ⟨Or.inl m_367, List.forall_mem_cons.mpr ⟨Or.inl m_348, List.forall_mem_cons.mpr ⟨Or.inl m_349, List.forall_mem_cons.mpr ⟨Or.inl m_35, List.forall_mem_cons.mpr ⟨Or.inl m_36, List.forall_mem_cons.mpr ⟨Or.inl m_350, List.forall_mem_cons.mpr ⟨Or.inl m_355, List.forall_mem_cons.mpr ⟨Or.inl m_363, List.forall_mem_cons.mpr ⟨Or.inl m_599, List.forall_mem_cons.mpr ⟨Or.inl m_337, List.forall_mem_cons.mpr ⟨Or.inl m_600, List.forall_mem_cons.mpr ⟨Or.inl m_339, List.forall_mem_cons.mpr ⟨Or.inl m_601, List.forall_mem_cons.mpr ⟨Or.inl m_341, List.forall_mem_cons.mpr ⟨Or.inl m_351, List.forall_mem_cons.mpr ⟨Or.inr (Or.inl rfl), List.forall_mem_cons.mpr ⟨Or.inl m_353, List.forall_mem_cons.mpr ⟨Or.inr (Or.inr (Or.inl rfl)), List.forall_mem_cons.mpr ⟨Or.inl m_343, List.forall_mem_cons.mpr ⟨Or.inl m_595, List.forall_mem_cons.mpr ⟨Or.inl m_596, List.forall_mem_cons.mpr ⟨Or.inl m_598, List.forall_mem_cons.mpr ⟨Or.inl m_343, List.forall_mem_cons.mpr ⟨Or.inl m_745, List.forall_mem_cons.mpr ⟨Or.inl m_746, List.forall_mem_cons.mpr ⟨Or.inl m_747, List.forall_mem_cons.mpr ⟨Or.inl m_589, List.forall_mem_cons.mpr ⟨Or.inr (Or.inr (Or.inr ⟨_, List.mem_of_getElem? (i := 0) rfl, rfl⟩)), List.forall_mem_cons.mpr ⟨Or.inl m_589, List.forall_mem_cons.mpr ⟨Or.inl m_590, List.forall_mem_cons.mpr ⟨Or.inl m_591, List.forall_mem_cons.mpr ⟨Or.inl m_592, List.forall_mem_cons.mpr ⟨Or.inr (Or.inr (Or.inr ⟨_, List.mem_of_getElem? (i := 1) rfl, rfl⟩)), List.forall_mem_cons.mpr ⟨Or.inl m_592, List.forall_mem_cons.mpr ⟨Or.inl m_593, List.forall_mem_cons.mpr ⟨Or.inl m_594, List.forall_mem_cons.mpr ⟨Or.inl m_595, List.forall_mem_cons.mpr ⟨Or.inr (Or.inr (Or.inr ⟨_, List.mem_of_getElem? (i := 2) rfl, rfl⟩)), List.forall_mem_cons.mpr ⟨Or.inl m_744, List.forall_mem_cons.mpr ⟨Or.inl m_735, List.forall_mem_cons.mpr ⟨Or.inl m_737, List.forall_mem_cons.mpr ⟨Or.inl m_359, List.forall_mem_cons.mpr ⟨Or.inl m_738, List.forall_mem_cons.mpr ⟨Or.inl m_739, List.forall_mem_cons.mpr ⟨Or.inl m_740, List.forall_mem_cons.mpr ⟨Or.inl m_741, List.forall_mem_cons.mpr ⟨Or.inl m_346, List.forall_mem_cons.mpr ⟨Or.inl m_345, List.forall_mem_cons.mpr ⟨Or.inl m_742, fun _ h => absurd h List.not_mem_nil⟩⟩⟩⟩⟩⟩⟩⟩⟩⟩⟩⟩⟩⟩⟩⟩⟩⟩⟩⟩⟩⟩⟩⟩⟩⟩⟩⟩⟩⟩⟩⟩⟩⟩⟩⟩⟩⟩⟩⟩⟩⟩⟩⟩⟩⟩⟩⟩⟩⟩⟩⟩⟩⟩
theorem fx_d1_0 : decode prog_16_method_2_code 0 = .ok (.aload_n 0, 1) := by decide +kernel
theorem fx_d1_1 : decode prog_16_method_2_code 1 = .ok (.aload_n 1, 1) := by decide +kernel
theorem fx_d1_2 : decode prog_16_method_2_code 2 = .ok (.invokespecial 7, 3) := by decide +kernel
theorem fx_d1_5 : decode prog_16_method_2_code 5 = .ok (.return_, 1) := by decide +kernel
set_option maxRecDepth 100000 in
theorem fx_g2 : ∀ w ∈ fx_words "SuffixIndex" 121 "java/util/NoSuchElementException" 13 prog_28_method_4_code, fx_src w := by
  exact List.forall_mem_cons.mpr ⟨Or.inl m_10, List.forall_mem_cons.mpr ⟨Or.inl m_347, List.forall_mem_cons.mpr ⟨Or.inl m_356, List.forall_mem_cons.mpr ⟨Or.inl m_362, List.forall_mem_cons.mpr ⟨Or.inl m_365, List.forall_mem_cons.mpr ⟨Or.inl m_367, List.forall_mem_cons.mpr ⟨Or.inl m_348, List.forall_mem_cons.mpr ⟨Or.inl m_349, List.forall_mem_cons.mpr ⟨Or.inl m_35, List.forall_mem_cons.mpr ⟨Or.inl m_36, List.forall_mem_cons.mpr ⟨Or.inl m_350, List.forall_mem_cons.mpr ⟨Or.inl m_355, List.forall_mem_cons.mpr ⟨Or.inl m_363, List.forall_mem_cons.mpr ⟨Or.inl m_599, List.forall_mem_cons.mpr ⟨Or.inl m_337, List.forall_mem_cons.mpr ⟨Or.inl m_600, List.forall_mem_cons.mpr ⟨Or.inl m_339, List.forall_mem_cons.mpr ⟨Or.inl m_601, List.forall_mem_cons.mpr ⟨Or.inl m_341, List.forall_mem_cons.mpr ⟨Or.inl m_351, List.forall_mem_cons.mpr ⟨Or.inr (Or.inl rfl), List.forall_mem_cons.mpr ⟨Or.inl m_353, List.forall_mem_cons.mpr ⟨Or.inr (Or.inr (Or.inl rfl)), List.forall_mem_cons.mpr ⟨Or.inl m_343, List.forall_mem_cons.mpr ⟨Or.inl m_595, List.forall_mem_cons.mpr ⟨Or.inl m_596, List.forall_mem_cons.mpr ⟨Or.inl m_598, List.forall_mem_cons.mpr ⟨Or.inl m_343, List.forall_mem_cons.mpr ⟨Or.inl m_850, List.forall_mem_cons.mpr ⟨Or.inl m_851, List.forall_mem_cons.mpr ⟨Or.inl m_852, List.forall_mem_cons.mpr ⟨Or.inl m_589, List.forall_mem_cons.mpr ⟨Or.inr (Or.inr (Or.inr ⟨_, List.mem_of_getElem? (i := 0) rfl, rfl⟩)), List.forall_mem_cons.mpr ⟨Or.inl m_589, List.forall_mem_cons.mpr ⟨Or.inl m_590, List.forall_mem_cons.mpr ⟨Or.inl m_591, List.forall_mem_cons.mpr ⟨Or.inl m_592, List.forall_mem_cons.mpr ⟨Or.inr (Or.inr (Or.inr ⟨_, List.mem_of_getElem? (i := 1) rfl, rfl⟩)), List.forall_mem_cons.mpr ⟨Or.inl m_592, List.forall_mem_cons.mpr ⟨Or.inl m_593, List.forall_mem_cons.mpr ⟨Or.inl m_594, List.forall_mem_cons.mpr ⟨Or.inl m_595, List.forall_mem_cons.mpr ⟨Or.inr (Or.inr (Or.inr ⟨_, List.mem_of_getElem? (i := 2) rfl, rfl⟩)), List.forall_mem_cons.mpr ⟨Or.inl m_849, List.forall_mem_cons.mpr ⟨Or.inl m_840, List.forall_mem_cons.mpr ⟨Or.inl m_842, List.forall_mem_cons.mpr ⟨Or.inl m_361, List.forall_mem_cons.mpr ⟨Or.inl m_843, List.forall_mem_cons.mpr ⟨Or.inl m_844, List.forall_mem_cons.mpr ⟨Or.inl m_845, List.forall_mem_cons.mpr ⟨Or.inl m_846, List.forall_mem_cons.mpr ⟨Or.inl m_346, List.forall_mem_cons.mpr ⟨Or.inl m_345, List.forall_mem_cons.mpr ⟨Or.inl m_847, fun _ h => absurd h List.not_mem_nil⟩⟩⟩⟩⟩⟩⟩⟩⟩⟩⟩⟩⟩⟩⟩⟩⟩⟩⟩⟩⟩⟩⟩⟩⟩⟩⟩⟩⟩⟩⟩⟩⟩⟩⟩⟩⟩⟩⟩⟩⟩⟩⟩⟩⟩⟩⟩⟩⟩⟩⟩⟩⟩⟩
theorem fx_d2_0 : decode prog_28_method_4_code 0 = .ok (.aload_n 0, 1) := by decide +kernel
theorem fx_d2_1 : decode prog_28_method_4_code 1 = .ok (.aload_n 1, 1) := by decide +kernel
theorem fx_d2_2 : decode prog_28_method_4_code 2 = .ok (.invokespecial 13, 3) := by decide +kernel
theorem fx_d2_5 : decode prog_28_method_4_code 5 = .ok (.return_, 1) := by decide +kernel
set_option maxRecDepth 100000 in
theorem fx_g3 : ∀ w ∈ fx_words "SuffixIndex" 242 "java/lang/IndexOutOfBoundsException" 7 prog_17_method_2_code, fx_src w := by
  exact List.forall_mem_cons.mpr ⟨Or.inl m_10, List.forall_mem_cons.mpr ⟨Or.inl m_347, List.forall_mem_cons.mpr ⟨Or.inl m_356, List.forall_mem_cons.mpr ⟨Or.inl m_362, List.forall_mem_cons.mpr ⟨Or.inl m_365, List.forall_mem_cons.mpr ⟨Or.inl m_367, List.forall_mem_cons.mpr ⟨Or.inl m_348, List.forall_mem_cons.mpr ⟨Or.inl m_349, List.forall_mem_cons.mpr ⟨Or.inl m_35, List.forall_mem_cons.mpr ⟨Or.inl m_36, List.forall_mem_cons.mpr ⟨Or.inl m_350, List.forall_mem_cons.mpr ⟨Or.inl m_355, List.forall_mem_cons.mpr ⟨Or.inl m_363, List.forall_mem_cons.mpr ⟨Or.inl m_599, List.forall_mem_cons.mpr ⟨Or.inl m_337, List.forall_mem_cons.mpr ⟨Or.inl m_600, List.forall_mem_cons.mpr ⟨Or.inl m_339, List.forall_mem_cons.mpr ⟨Or.inl m_601, List.forall_mem_cons.mpr ⟨Or.inl m_341, List.forall_mem_cons.mpr ⟨Or.inl m_351, List.forall_mem_cons.mpr ⟨Or.inr (Or.inl rfl), List.forall_mem_cons.mpr ⟨Or.inl m_353, List.forall_mem_cons.mpr ⟨Or.inr (Or.inr (Or.inl rfl)), List.forall_mem_cons.mpr ⟨Or.inl m_343, List.forall_mem_cons.mpr ⟨Or.inl m_595, List.forall_mem_cons.mpr ⟨Or.inl m_596, List.forall_mem_cons.mpr ⟨Or.inl m_598, List.forall_mem_cons.mpr ⟨Or.inl m_343, List.forall_mem_cons.mpr ⟨Or.inl m_646, List.forall_mem_cons.mpr ⟨Or.inl m_647, List.forall_mem_cons.mpr ⟨Or.inl m_648, List.forall_mem_cons.mpr ⟨Or.inl m_589, List.forall_mem_cons.mpr ⟨Or.inr (Or.inr (Or.inr ⟨_, List.mem_of_getElem? (i := 0) rfl, rfl⟩)), List.forall_mem_cons.mpr ⟨Or.inl m_589, List.forall_mem_cons.mpr ⟨Or.inl m_590, List.forall_mem_cons.mpr ⟨Or.inl m_591, List.forall_mem_cons.mpr ⟨Or.inl m_592, List.forall_mem_cons.mpr ⟨Or.inr (Or.inr (Or.inr ⟨_, List.mem_of_getElem? (i := 1) rfl, rfl⟩)), List.forall_mem_cons.mpr ⟨Or.inl m_592, List.forall_mem_cons.mpr ⟨Or.inl m_593, List.forall_mem_cons.mpr ⟨Or.inl m_594, List.forall_mem_cons.mpr ⟨Or.inl m_595, List.forall_mem_cons.mpr ⟨Or.inr (Or.inr (Or.inr ⟨_, List.mem_of_getElem? (i := 2) rfl, rfl⟩)), List.forall_mem_cons.mpr ⟨Or.inl m_1085, List.forall_mem_cons.mpr ⟨Or.inl m_1076, List.forall_mem_cons.mpr ⟨Or.inl m_1078, List.forall_mem_cons.mpr ⟨Or.inl m_360, List.forall_mem_cons.mpr ⟨Or.inl m_1079, List.forall_mem_cons.mpr ⟨Or.inl m_1080, List.forall_mem_cons.mpr ⟨Or.inl m_1081, List.forall_mem_cons.mpr ⟨Or.inl m_1082, List.forall_mem_cons.mpr ⟨Or.inl m_346, List.forall_mem_cons.mpr ⟨Or.inl m_345, List.forall_mem_cons.mpr ⟨Or.inl m_1083, fun _ h => absurd h List.not_mem_nil⟩⟩⟩⟩⟩⟩⟩⟩⟩⟩⟩⟩⟩⟩⟩⟩⟩⟩⟩⟩⟩⟩⟩⟩⟩⟩⟩⟩⟩⟩⟩⟩⟩⟩⟩⟩⟩⟩⟩⟩⟩⟩⟩⟩⟩⟩⟩⟩⟩⟩⟩⟩⟩⟩
theorem fx_d3_0 : decode prog_17_method_2_code 0 = .ok (.aload_n 0, 1) := by decide +kernel
theorem fx_d3_1 : decode prog_17_method_2_code 1 = .ok (.aload_n 1, 1) := by decide +kernel
theorem fx_d3_2 : decode prog_17_method_2_code 2 = .ok (.invokespecial 7, 3) := by decide +kernel
theorem fx_d3_5 : decode prog_17_method_2_code 5 = .ok (.return_, 1) := by decide +kernel
section XROWS
variable {p : Program} {l : Launch} {e : Env} {R : Room} {s : State} {m : MethodId} {args : Array Value} {below : List Frame} {meth : Method} {c : Code} {H : Heap} {locs : List Loc} {cells slots : Nat} {Q : State → Prop}
variable {pc : Nat} {ls : Array Slot} {rest st0 : List Value} {A : Nat → Prop} {mc ms MC MS : Nat}
variable {y : MethodName} {bytes cc : ByteArray} {maxL nL n index : Nat} {ret : Option FieldType} {wy : List Cond} {rm : Room} {Ts : List Cond} {own C : String} {b : Addr} {As : List Value} {D : va_G} {cl : List vw_C} {tys : List (ClassId × FieldType)} {wc wr ws : va_W} {Qc : Array Value → State → Outcome → State → Prop}
set_option maxHeartbeats 1000000 in
theorem W_thr (F : CallFix p m c cc nL s args WT "SuffixIndex") (hlk : meth.locks = false) (hX : XC l A s c) (hS : va_S A s.heap H locs) (hP : va_P D cl ws H) {cls : String} {ia ib ic i1 : Nat} {b1 : ByteArray} {tx : String}
    (hmsg : (ib, tx) ∈ fx_msgs) (hcl : Cond.classLink "SuffixIndex" ia cls ∈ WT) (hins : Cond.instantiable cls 6 ∈ WT) (hini : Cond.initialized cls ∈ WT) (hws : ∀ w ∈ fx_words "SuffixIndex" ic cls i1 b1, fx_src w) (hfit : Bundle.fit cls = true)
    (hb0 : decode b1 0 = .ok (.aload_n 0, 1)) (hb1 : decode b1 1 = .ok (.aload_n 1, 1)) (hb2 : decode b1 2 = .ok (.invokespecial i1, 3)) (hb5 : decode b1 5 = .ok (.return_, 1))
    (hd0 : decode cc pc = .ok (.new ia, 3)) (hd3 : decode cc (pc + 3) = .ok (.dup, 1)) (hd4 : decode cc (pc + 3 + 1) = .ok (.ldc ib, 2)) (hd6 : decode cc (pc + 3 + 1 + 2) = .ok (.invokespecial ic, 3)) (hd9 : decode cc (pc + 3 + 1 + 2 + 3) = .ok (.athrow, 1))
    (hcells : cells + 1 ≤ R.cells) (hslots : slots + 6 ≤ R.slots) (hfr : 5 < R.frames) (hlo : ((st0.map fun v => v.category).sum + 1) + 81 ≤ R.locals) (hls : ls.size = nL) (hm : cells + 1 ≤ MC ∧ slots + 6 ≤ MS)
    (hq : ∀ (x : Nat) (ce : Cell) (t : State), s.heap.size ≤ x → va_P D cl ws t.heap → va_F A s t → s.WarmedH t.vm → t.heap[x]? = some ce → ce.vm = .none → s.vm.findClass cls = some ce.cls → Qc args s (.threw x) t) :
    W p l e R s m args below meth c H locs cells slots (MQX below Qc args s MC MS A) (F0 m pc ls st0) := by
  obtain ⟨hx, hb, hml, hown, hw⟩ := F
  obtain ⟨hfl, hok, hns, hnh⟩ := hX
  refine W_mono (mqx_le hm.1 hm.2) ?_
  refine W.newc hx hb hown (hw _ hcl) (hw _ hins) (hw _ hini) rfl hd0 hcells hslots fun cC kC h1 h2 h3 h4 => ?_
  refine lv_dup hx hb hd3 rfl ?_
  obtain ⟨q, hq0⟩ := hok.2.2.2 _ hmsg
  refine va_ldcS hx hb hown hq0 hd4 ?_
  intro T hT X
  have hsz : s.heap.size ≤ H.size := hS.1
  have hTs : T.heap.size = H.size + 1 := by rw [hT]; simp
  have hTa : T.heap[H.size]? = some (freshCell cC kC) := by rw [hT]; simp
  have hTq : ∀ z : Nat, z < H.size → T.heap[z]? = H[z]? := fun z hz => by rw [hT, Array.getElem?_push, if_neg (Nat.ne_of_lt hz)]
  obtain ⟨U, ce, g1, g2, g3, g4, g5, g6, g7, g8, g9, g10⟩ := fx_throw X hx (Launch.traces_off hfl X.admits) hown hfit hb0 hb1 hb2 hb5 (fx_have hw hok hws) (fx_haveS hok) (fun z hz cell hc => hns _ (hS.2.2 z hz) cell hc) h1 h2 hTa hsz (msg := .ref q) rfl
    (g := F0 m (pc + 3 + 1 + 2) ls (.ref q :: .ref H.size :: .ref H.size :: st0)) rfl (hls.trans hml.symm) rfl rfl (rest := st0) rfl (by rw [hb]; exact hd6) (by rw [hb]; exact hd9)
    (fun x hx => by
      have : c.exceptionTable.toList = [] := by
        have := Array.isEmpty_iff.mp hnh
        simp [this]
      rw [this] at hx; cases hx) hfr (by
      show 2 * 0 + _ + 81 ≤ _
      simp only [List.map_cons, List.sum_cons]
      have hc1 : (Value.ref H.size).category = 1 := rfl
      omega) hlk
  have hUq : ∀ z : Nat, z < H.size → U.heap[z]? = H[z]? := fun z hz => (g9 z (Nat.ne_of_lt hz)).trans (hTq z hz)
  refine ⟨U, g1, .threw H.size, g2, g3, hq H.size ce U hsz ?_ ?_ g4 g6 g8 (by rw [g7]; exact h1), locs, ⟨g4, g5⟩, hS.2.2⟩
  · exact hP.kept fun k z hz => hUq z.1 ((hP k z hz).lt)
  · refine ⟨by rw [g10, hTs]; omega, fun z h1 h2 => ?_⟩
    rw [hUq z (by omega)]
    exact hS.2.1 z h1 h2
theorem xr_V {qC : vw_C} {fs : List Value} (F : CallFix p m c cc nL s args Ts own) (hM : MetX l y wy rm (cPreX D cl tys wc H.size (.ref b :: As)) Qc mc ms (va_A wc H.size))
    (cw : CallW R s args own qC.1 index y bytes maxL ret wy rm mc ms n) (hok : fx_ok A s s.heap) (hK : va_K D cl tys s) (hP : va_P D cl ws H) (hD : va_D A ws) (hS : va_S A s.heap H locs) (hA : ∀ q, s.heap.size ≤ q → A q)
    (isC : List Nat) (hnC : va_nd isC = true) (hC : isC.map (fun i => ws[i]?) = wc.map some) (q0 ci : Nat) (hc : cl[ci]? = some qC) (he : wc[q0]? = some (b, .inr (ci, fs)))
    (hn : As.length = n) (hsz : ls.size = nL) (hst : st0 = As.reverse ++ .ref b :: rest) (hW : (rest.map fun v => v.category).sum ≤ 8) (hdg : decode cc pc = .ok (.invokevirtual index, 3)) (hf : cells + mc ≤ R.cells ∧ slots + ms ≤ R.slots) :
    XRun p l e R s m args below meth c H locs cells slots mc ms (F0 m pc ls st0) rest (Qc (Value.ref b :: As).toArray) (va_A wc H.size) :=
  have hPc := P_sub hP isC hC
  have hDc := hD.sub isC hnC hC
  x_runV F hM cw ⟨cPreX_blind, va_recv hK hPc hc he, fun U hU hWm => ⟨rfl, by rw [hU], by rw [hU]; exact hPc, va_K.moved hWm.alike hK, hDc.weaken (fun _ _ _ _ => trivial), by rw [hU]; exact hok.to hS (va_free (wc := wc) hD hS hA isC hC) hWm⟩⟩ rfl hn hsz hst (lv_room (m := m) (pc := pc) (ls := ls) (rest := st0) hW) hdg hf
/-- the end of a method through which an exception goes -/
theorem x_out {T : State} {x : Addr} (X : Stand p l e R s m args below meth c T locs cells slots) (hlk : meth.locks = false) (hnh : c.exceptionTable.isEmpty = true) (st : List Value) :
    Steps p.tables e below ((T.setTop (F0 m pc ls st)).pushFrame (.throwing x)) (T.setFrames (.throwing x :: below)) ∧ (T.setFrames (.throwing x :: below)).status = .running ∧ Ended (T.setFrames (.throwing x :: below)) below (.threw x) ∧ s.WarmedH (T.setFrames (.throwing x :: below)).vm ∧ s.sameButNew ({ T.setFrames (.throwing x :: below) with vm := s.vm } : State) locs cells slots :=
  X.leaveThrown x (g := F0 m pc ls st) rfl rfl rfl (fun z hz => by
    have : c.exceptionTable.toList = [] := by
      have := Array.isEmpty_iff.mp hnh
      simp [this]
    rw [this] at hz; cases hz) hlk
/-- the throwing half of a call, common to all kinds -/
theorem x_thrown {S : Type} {thr : Nat → S → Prop} {w1 : S → va_W} {T T' st₀ t : State} {L : List Loc} {x : Addr} (hlk : meth.locks = false) (hnh : c.exceptionTable.isEmpty = true)
    (hP : va_P D cl ws H) (hD : va_D A ws) (hS : va_S A s.heap H locs) (hA : ∀ q, s.heap.size ≤ q → A q) (isC isR : List Nat) (hC : isC.map (fun i => ws[i]?) = wc.map some) (hR : isR.map (fun i => ws[i]?) = wr.map some) (hnR : va_nd isR = true) (hdis : ∀ i ∈ isR, i ∉ isC)
    (h0 : st₀.heap = H) (hW0 : s.WarmedH st₀.vm) (X' : Stand p l e R s m args below meth c T' (locs ++ L) (cells + mc) (slots + ms)) (hL : ∀ q ∈ L, va_A wc H.size q.base) (e1 : T'.heap = t.heap) (e2 : T'.vm = t.vm)
    (hx : XT thr (fun u t => cAft D cl tys (va_A wc H.size) (w1 u) t) st₀ (.threw x) t) (hF : va_F (va_A wc H.size) st₀ t) (hm : cells + mc ≤ MC ∧ slots + ms ≤ MS)
    (hq : ∀ (x k : Nat) (u : S) (ce : Cell) (t : State), thr k u → va_P D cl (wr ++ w1 u) t.heap → va_D A (wr ++ w1 u) → va_F A s t → s.WarmedH t.vm → s.heap.size ≤ x → t.heap[x]? = some ce → ce.vm = .none → s.vm.findClass (fx_name k) = some ce.cls → Qc args s (.threw x) t) (st : List Value)
    (hgo : ∀ target, Steps p.tables e below ((T'.setTop (F0 m pc ls st)).pushFrame (.throwing x)) target → Steps p.tables e below (T.setTop (F0 m pc ls st0)) target) :
    ∃ t, Steps p.tables e below (T.setTop (F0 m pc ls st0)) t ∧ MQX below Qc args s MC MS A t := by
  have hFc := va_free (wc := wc) hD hS hA isC hC
  obtain ⟨x', k, u, ce, ho, hth, ⟨hP1, hK1, hD1⟩, hsz, hce, hcv, hcc⟩ := hx
  cases ho
  obtain ⟨hz, hk⟩ := hF
  rw [h0] at hz hk hsz
  rw [← e1] at hz hk hP1 hce
  obtain ⟨hP', hD'⟩ := va_join (wr := wr) (w1 := w1 u) hP hD isC isR hC hR hnR hdis hk hFc hP1 hD1
  obtain ⟨g1, g2, g3, g4, g5⟩ := x_out (pc := pc) (ls := ls) (x := x) X' hlk hnh st
  refine ⟨_, hgo _ g1, mqx_le hm.1 hm.2 _ ⟨.threw x, g2, g3, hq x k u ce _ hth hP' hD' ⟨Nat.le_trans hS.1 hz, fun q h1 h2 => ?_⟩ g4 (Nat.le_trans hS.1 hsz) hce hcv (by rw [← hW0.alike.findClass]; exact hcc), locs ++ L, ⟨g4, g5⟩, fun q hq => ?_⟩⟩
  · exact (hk q (Nat.lt_of_lt_of_le h1 hS.1) (fun z => h2 (hFc q z))).trans (hS.2.1 q h1 h2)
  · rcases List.mem_append.mp hq with h | h
    · exact hS.2.2 q h
    · exact hFc _ (hL q h)
theorem x_S {T' st₀ t : State} {L : List Loc} (hD : va_D A ws) (hS : va_S A s.heap H locs) (hA : ∀ q, s.heap.size ≤ q → A q) (isC : List Nat) (hC : isC.map (fun i => ws[i]?) = wc.map some) (h0 : st₀.heap = H) (hL : ∀ q ∈ L, va_A wc H.size q.base) (e1 : T'.heap = t.heap) (hF : va_F (va_A wc H.size) st₀ t) : va_S A s.heap T'.heap (locs ++ L) := by
  have hFc := va_free (wc := wc) hD hS hA isC hC
  obtain ⟨hz, hk⟩ := hF
  rw [h0, ← e1] at hz hk
  refine ⟨Nat.le_trans hS.1 hz, fun q h1 h2 => (hk q (Nat.lt_of_lt_of_le h1 hS.1) (fun z => h2 (hFc q z))).trans (hS.2.1 q h1 h2), fun q hq => ?_⟩
  rcases List.mem_append.mp hq with h | h
  · exact hS.2.2 q h
  · exact hFc _ (hL q h)
theorem xV_i {S : Type} {post : Int32 → S → Prop} {thr : Nat → S → Prop} {w1 : S → va_W} {qC : vw_C} {fs : List Value} (hM : MetX l y wy rm (cPreX D cl tys wc H.size (.ref b :: As)) (XQi post thr (fun u t => cAft D cl tys (va_A wc H.size) (w1 u) t) (va_A wc H.size)) mc ms (va_A wc H.size))
    (F : CallFix p m c cc nL s args Ts own) (cw : CallW R s args own qC.1 index y bytes maxL ret wy rm mc ms n) (hX : XC l A s c) (hlk : meth.locks = false) (hK : va_K D cl tys s) (hP : va_P D cl ws H) (hD : va_D A ws) (hS : va_S A s.heap H locs) (hA : ∀ q, s.heap.size ≤ q → A q)
    (isC isR : List Nat) (hnC : va_nd isC = true) (hC : isC.map (fun i => ws[i]?) = wc.map some) (hR : isR.map (fun i => ws[i]?) = wr.map some) (hnR : va_nd isR = true) (hdis : ∀ i ∈ isR, i ∉ isC) (q0 ci : Nat) (hc : cl[ci]? = some qC) (he : wc[q0]? = some (b, .inr (ci, fs)))
    (hn : As.length = n) (hsz : ls.size = nL) (hst : st0 = As.reverse ++ .ref b :: rest) (hW : (rest.map fun v => v.category).sum ≤ 8) (hdg : decode cc pc = .ok (.invokevirtual index, 3)) (hf : cells + mc ≤ R.cells ∧ slots + ms ≤ R.slots) (hm : cells + mc ≤ MC ∧ slots + ms ≤ MS)
    (hq : ∀ (x k : Nat) (u : S) (ce : Cell) (t : State), thr k u → va_P D cl (wr ++ w1 u) t.heap → va_D A (wr ++ w1 u) → va_F A s t → s.WarmedH t.vm → s.heap.size ≤ x → t.heap[x]? = some ce → ce.vm = .none → s.vm.findClass (fx_name k) = some ce.cls → Qc args s (.threw x) t)
    (kk : ∀ (r : Int32) (u : S) (H1 : Heap) (locs1 : List Loc), post r u → va_P D cl (wr ++ w1 u) H1 → va_D A (wr ++ w1 u) → va_S A s.heap H1 locs1 → W p l e R s m args below meth c H1 locs1 (cells + mc) (slots + ms) (MQX below Qc args s MC MS A) (F0 m (pc + 3) ls (.int r :: rest))) : W p l e R s m args below meth c H locs cells slots (MQX below Qc args s MC MS A) (F0 m pc ls st0) := by
  have hFc := va_free (wc := wc) hD hS hA isC hC
  intro T hT X
  obtain ⟨o, st₀, t, T', L, h0, hW0, X', hL, e1, e2, ⟨hres, hF⟩, hout⟩ := xr_V (rest := rest) F hM cw hX.2.1 hK hP hD hS hA isC hnC hC q0 ci hc he hn hsz hst hW hdg hf T hT X
  rcases hout with ⟨v, rfl, hgo⟩ | ⟨x, rfl, hgo⟩
  · rcases hres with ⟨r, u, hv, hp, hP1, hK1, hD1⟩ | ⟨_, _, _, _, hv, _⟩
    · cases hv
      rw [← e1] at hP1
      obtain ⟨hz, hk⟩ := id hF
      rw [h0, ← e1] at hz hk
      obtain ⟨hP', hD'⟩ := va_join (wr := wr) (w1 := w1 u) hP hD isC isR hC hR hnR hdis hk hFc hP1 hD1
      obtain ⟨t2, a1, b1⟩ := kk r u T'.heap (locs ++ L) hp hP' hD' (x_S hD hS hA isC hC h0 hL e1 hF) T' rfl X'
      exact ⟨t2, hgo t2 a1, b1⟩
    · cases hv
  · rcases hres with ⟨r, u, hv, _⟩ | hx
    · cases hv
    · exact x_thrown hlk hX.2.2.2 hP hD hS hA isC isR hC hR hnR hdis h0 hW0 X' hL e1 e2 hx hF hm hq rest hgo
theorem xV_v {S : Type} {post : S → Prop} {thr : Nat → S → Prop} {w1 : S → va_W} {qC : vw_C} {fs : List Value} (hM : MetX l y wy rm (cPreX D cl tys wc H.size (.ref b :: As)) (XQv post thr (fun u t => cAft D cl tys (va_A wc H.size) (w1 u) t) (va_A wc H.size)) mc ms (va_A wc H.size))
    (F : CallFix p m c cc nL s args Ts own) (cw : CallW R s args own qC.1 index y bytes maxL ret wy rm mc ms n) (hX : XC l A s c) (hlk : meth.locks = false) (hK : va_K D cl tys s) (hP : va_P D cl ws H) (hD : va_D A ws) (hS : va_S A s.heap H locs) (hA : ∀ q, s.heap.size ≤ q → A q)
    (isC isR : List Nat) (hnC : va_nd isC = true) (hC : isC.map (fun i => ws[i]?) = wc.map some) (hR : isR.map (fun i => ws[i]?) = wr.map some) (hnR : va_nd isR = true) (hdis : ∀ i ∈ isR, i ∉ isC) (q0 ci : Nat) (hc : cl[ci]? = some qC) (he : wc[q0]? = some (b, .inr (ci, fs)))
    (hn : As.length = n) (hsz : ls.size = nL) (hst : st0 = As.reverse ++ .ref b :: rest) (hW : (rest.map fun v => v.category).sum ≤ 8) (hdg : decode cc pc = .ok (.invokevirtual index, 3)) (hf : cells + mc ≤ R.cells ∧ slots + ms ≤ R.slots) (hm : cells + mc ≤ MC ∧ slots + ms ≤ MS)
    (hq : ∀ (x k : Nat) (u : S) (ce : Cell) (t : State), thr k u → va_P D cl (wr ++ w1 u) t.heap → va_D A (wr ++ w1 u) → va_F A s t → s.WarmedH t.vm → s.heap.size ≤ x → t.heap[x]? = some ce → ce.vm = .none → s.vm.findClass (fx_name k) = some ce.cls → Qc args s (.threw x) t)
    (kk : ∀ (u : S) (H1 : Heap) (locs1 : List Loc), post u → va_P D cl (wr ++ w1 u) H1 → va_D A (wr ++ w1 u) → va_S A s.heap H1 locs1 → W p l e R s m args below meth c H1 locs1 (cells + mc) (slots + ms) (MQX below Qc args s MC MS A) (F0 m (pc + 3) ls rest)) : W p l e R s m args below meth c H locs cells slots (MQX below Qc args s MC MS A) (F0 m pc ls st0) := by
  have hFc := va_free (wc := wc) hD hS hA isC hC
  intro T hT X
  obtain ⟨o, st₀, t, T', L, h0, hW0, X', hL, e1, e2, ⟨hres, hF⟩, hout⟩ := xr_V (rest := rest) F hM cw hX.2.1 hK hP hD hS hA isC hnC hC q0 ci hc he hn hsz hst hW hdg hf T hT X
  rcases hout with ⟨v, rfl, hgo⟩ | ⟨x, rfl, hgo⟩
  · rcases hres with ⟨u, hv, hp, hP1, hK1, hD1⟩ | ⟨_, _, _, _, hv, _⟩
    · cases hv
      rw [← e1] at hP1
      obtain ⟨hz, hk⟩ := id hF
      rw [h0, ← e1] at hz hk
      obtain ⟨hP', hD'⟩ := va_join (wr := wr) (w1 := w1 u) hP hD isC isR hC hR hnR hdis hk hFc hP1 hD1
      obtain ⟨t2, a1, b1⟩ := kk u T'.heap (locs ++ L) hp hP' hD' (x_S hD hS hA isC hC h0 hL e1 hF) T' rfl X'
      exact ⟨t2, hgo t2 a1, b1⟩
    · cases hv
  · rcases hres with ⟨u, hv, _⟩ | hx
    · cases hv
    · exact x_thrown hlk hX.2.2.2 hP hD hS hA isC isR hC hR hnR hdis h0 hW0 X' hL e1 e2 hx hF hm hq rest hgo
end XROWS

