section XCALL
variable {p : Program} {l : Launch} {e : Env} {R : Room} {s : State} {m : MethodId} {args : Array Value} {below : List Frame} {meth : Method} {c : Code} {H : Heap} {locs : List Loc} {cells slots : Nat} {Q : State → Prop}
variable {pc : Nat} {ls : Array Slot} {rest st0 : List Value} {A : Nat → Prop} {mc ms : Nat}
variable {y : MethodName} {bytes cc : ByteArray} {maxL nL n index : Nat} {ret : Option FieldType} {wy : List Cond} {rm : Room} {Ts : List Cond} {own C : String} {b : Addr} {As : List Value} {D : va_G} {cl : List vw_C} {tys : List (ClassId × FieldType)} {wc wr ws : va_W}
theorem xC_i {S : Type} {post : Int32 → S → Prop} {thr : Nat → S → Prop} {w1 : S → va_W} {qC : vw_C} {fs : List Value} (hM : MetX l y wy rm (cPreX D cl tys wc H.size (.ref b :: As)) (XQi post thr (fun u t => cAft D cl tys (va_A wc H.size) (w1 u) t) (va_A wc H.size)) mc ms (va_A wc H.size))
    (F : CallFix p m c cc nL s args Ts own) (cw : CallW R s args own qC.1 index y bytes maxL ret wy rm mc ms n) (hok : fx_ok A s s.heap) (hK : va_K D cl tys s) (hP : va_P D cl ws H) (hD : va_D A ws) (hS : va_S A s.heap H locs) (hA : ∀ q, s.heap.size ≤ q → A q)
    (isC isR : List Nat) (hnC : va_nd isC = true) (hC : isC.map (fun i => ws[i]?) = wc.map some) (hR : isR.map (fun i => ws[i]?) = wr.map some) (hnR : va_nd isR = true) (hdis : ∀ i ∈ isR, i ∉ isC) (q0 ci : Nat) (hc : cl[ci]? = some qC) (he : wc[q0]? = some (b, .inr (ci, fs)))
    (hn : As.length = n) (hsz : ls.size = nL) (hst : st0 = As.reverse ++ .ref b :: rest) (hW : (rest.map fun v => v.category).sum ≤ 8) (hdg : decode cc pc = .ok (.invokevirtual index, 3)) (hf : cells + mc ≤ R.cells ∧ slots + ms ≤ R.slots)
    (kk : ∀ (r : Int32) (u : S) (H1 : Heap) (locs1 : List Loc), post r u → va_P D cl (wr ++ w1 u) H1 → va_D A (wr ++ w1 u) → va_S A s.heap H1 locs1 → W p l e R s m args below meth c H1 locs1 (cells + mc) (slots + ms) Q (F0 m (pc + 3) ls (.int r :: rest)))
    (kx : ∀ (x k : Nat) (u : S) (H1 : Heap) (locs1 : List Loc), thr k u → va_P D cl (wr ++ w1 u) H1 → va_D A (wr ++ w1 u) → va_S A s.heap H1 locs1 →
      ∃ hp : Nat, (∀ thrown, e.platform.magicAccessors = ({} : Platform).magicAccessors → s.vm.findClass (fx_name k) = some thrown → fc_ok e s (F0 m pc ls rest) thrown hp c.exceptionTable.toList) ∧ W p l e R s m args below meth c H1 locs1 (cells + mc) (slots + ms) Q (F0 m hp ls [.ref x])) : W p l e R s m args below meth c H locs cells slots Q (F0 m pc ls st0) := by
  have hFc := va_free (wc := wc) hD hS hA isC hC
  intro T hT X
  obtain ⟨o, st₀, t, T', L, h0, hW0, X', hL, e1, e2, ⟨hres, hF⟩, hout⟩ := xr_V (rest := rest) F hM cw hok hK hP hD hS hA isC hnC hC q0 ci hc he hn hsz hst hW hdg hf T hT X
  rcases hout with ⟨v, rfl, hgo⟩ | ⟨x, rfl, hgo⟩
  · rcases hres with ⟨r, u, hv, hp, hP1, hK1, hD1⟩ | ⟨_, _, _, _, hv, _⟩
    · cases hv
      rw [← e1] at hP1
      obtain ⟨hz, hk⟩ := id hF
      rw [h0, ← e1] at hz hk
      obtain ⟨hP', hD'⟩ := va_join (wr := wr) (w1 := w1 u) hP hD isC isR hC hR hnR hdis hk hFc hP1 hD1
      obtain ⟨t2, a1, b1⟩ := kk r u T'.heap (locs ++ L) hp hP' hD' (x_S hD hS hA isC hC h0 hL e1 hF) T' rfl X'
      exact ⟨t2, hgo t2 a1, b1⟩
    · cases hv
  · rcases hres with ⟨r, u, hv, _⟩ | hx
    · cases hv
    · exact xc_thrown hP hD hS hA isC isR hC hR hnR hdis h0 hW0 X' hL e1 hx hF kx hgo
theorem xC_l {S : Type} {post : Int64 → S → Prop} {thr : Nat → S → Prop} {w1 : S → va_W} {qC : vw_C} {fs : List Value} (hM : MetX l y wy rm (cPreX D cl tys wc H.size (.ref b :: As)) (XQl post thr (fun u t => cAft D cl tys (va_A wc H.size) (w1 u) t) (va_A wc H.size)) mc ms (va_A wc H.size))
    (F : CallFix p m c cc nL s args Ts own) (cw : CallW R s args own qC.1 index y bytes maxL ret wy rm mc ms n) (hok : fx_ok A s s.heap) (hK : va_K D cl tys s) (hP : va_P D cl ws H) (hD : va_D A ws) (hS : va_S A s.heap H locs) (hA : ∀ q, s.heap.size ≤ q → A q)
    (isC isR : List Nat) (hnC : va_nd isC = true) (hC : isC.map (fun i => ws[i]?) = wc.map some) (hR : isR.map (fun i => ws[i]?) = wr.map some) (hnR : va_nd isR = true) (hdis : ∀ i ∈ isR, i ∉ isC) (q0 ci : Nat) (hc : cl[ci]? = some qC) (he : wc[q0]? = some (b, .inr (ci, fs)))
    (hn : As.length = n) (hsz : ls.size = nL) (hst : st0 = As.reverse ++ .ref b :: rest) (hW : (rest.map fun v => v.category).sum ≤ 8) (hdg : decode cc pc = .ok (.invokevirtual index, 3)) (hf : cells + mc ≤ R.cells ∧ slots + ms ≤ R.slots)
    (kk : ∀ (r : Int64) (u : S) (H1 : Heap) (locs1 : List Loc), post r u → va_P D cl (wr ++ w1 u) H1 → va_D A (wr ++ w1 u) → va_S A s.heap H1 locs1 → W p l e R s m args below meth c H1 locs1 (cells + mc) (slots + ms) Q (F0 m (pc + 3) ls (.long r :: rest)))
    (kx : ∀ (x k : Nat) (u : S) (H1 : Heap) (locs1 : List Loc), thr k u → va_P D cl (wr ++ w1 u) H1 → va_D A (wr ++ w1 u) → va_S A s.heap H1 locs1 →
      ∃ hp : Nat, (∀ thrown, e.platform.magicAccessors = ({} : Platform).magicAccessors → s.vm.findClass (fx_name k) = some thrown → fc_ok e s (F0 m pc ls rest) thrown hp c.exceptionTable.toList) ∧ W p l e R s m args below meth c H1 locs1 (cells + mc) (slots + ms) Q (F0 m hp ls [.ref x])) : W p l e R s m args below meth c H locs cells slots Q (F0 m pc ls st0) := by
  have hFc := va_free (wc := wc) hD hS hA isC hC
  intro T hT X
  obtain ⟨o, st₀, t, T', L, h0, hW0, X', hL, e1, e2, ⟨hres, hF⟩, hout⟩ := xr_V (rest := rest) F hM cw hok hK hP hD hS hA isC hnC hC q0 ci hc he hn hsz hst hW hdg hf T hT X
  rcases hout with ⟨v, rfl, hgo⟩ | ⟨x, rfl, hgo⟩
  · rcases hres with ⟨r, u, hv, hp, hP1, hK1, hD1⟩ | ⟨_, _, _, _, hv, _⟩
    · cases hv
      rw [← e1] at hP1
      obtain ⟨hz, hk⟩ := id hF
      rw [h0, ← e1] at hz hk
      obtain ⟨hP', hD'⟩ := va_join (wr := wr) (w1 := w1 u) hP hD isC isR hC hR hnR hdis hk hFc hP1 hD1
      obtain ⟨t2, a1, b1⟩ := kk r u T'.heap (locs ++ L) hp hP' hD' (x_S hD hS hA isC hC h0 hL e1 hF) T' rfl X'
      exact ⟨t2, hgo t2 a1, b1⟩
    · cases hv
  · rcases hres with ⟨r, u, hv, _⟩ | hx
    · cases hv
    · exact xc_thrown hP hD hS hA isC isR hC hR hnR hdis h0 hW0 X' hL e1 hx hF kx hgo
/-- a static method whose table isn't empty, that always returns an int -/
theorem cSW_i {S : Type} {post : Int32 → S → Prop} {w1 : S → va_W} {hs : List (Nat × Nat × Nat × Nat)} (hM : Met l y (Cond.codeWith y bytes maxL ret hs :: WT) rm (cPreH D cl tys wc H.size As) (va_Qi post (fun u t => cAft D cl tys (va_A wc H.size) (w1 u) t) (va_A wc H.size)) mc ms (va_A wc H.size))
    (F : CallFix p m c cc nL s args Ts own) (hT : ∀ w ∈ WT, w ∈ Ts) (h1 : Cond.methodLink own index y ∈ WT) (h2 : Cond.static y ∈ WT) (h4 : Cond.initialized y.cls ∈ WT) (h5 : Cond.codeWith y bytes maxL ret hs ∈ WT) (hrc : rm.cells = mc) (hrs : rm.slots = ms)
    (hd : y.cls ≠ "java/lang/invoke/MethodHandle" ∧ y.cls ≠ "java/lang/invoke/VarHandle" ∧ (parseMethodDescriptor y.desc).map (fun d => d.parameters.length) = some n) (hRm : rm.frames + 1 ≤ R.frames ∧ 8 + (maxL + 11) + rm.locals ≤ R.locals)
    (hok : fx_ok A s s.heap) (hcs : cs_ok s) (hK : va_K D cl tys s) (hP : va_P D cl ws H) (hD : va_D A ws) (hS : va_S A s.heap H locs) (hA : ∀ q, s.heap.size ≤ q → A q)
    (isC isR : List Nat) (hnC : va_nd isC = true) (hC : isC.map (fun i => ws[i]?) = wc.map some) (hR : isR.map (fun i => ws[i]?) = wr.map some) (hnR : va_nd isR = true) (hdis : ∀ i ∈ isR, i ∉ isC)
    (hn : As.length = n) (hsz : ls.size = nL) (hst : st0 = As.reverse ++ rest) (hW : (rest.map fun v => v.category).sum ≤ 8) (hdg : decode cc pc = .ok (.invokestatic index, 3)) (hf : cells + mc ≤ R.cells ∧ slots + ms ≤ R.slots)
    (kk : ∀ (r : Int32) (u : S) (H1 : Heap) (locs1 : List Loc), post r u → va_P D cl (wr ++ w1 u) H1 → va_D A (wr ++ w1 u) → va_S A s.heap H1 locs1 → W p l e R s m args below meth c H1 locs1 (cells + mc) (slots + ms) Q (F0 m (pc + 3) ls (.int r :: rest))) : W p l e R s m args below meth c H locs cells slots Q (F0 m pc ls st0) := by
  have hFc := va_free (wc := wc) hD hS hA isC hC
  have hPc := P_sub hP isC hC
  have hDc := hD.sub isC hnC hC
  intro T hT0 X
  obtain ⟨hx, hb, hml, ho, hw⟩ := id F
  subst hb
  subst hrc; subst hrs
  obtain ⟨mk, methM, cM, hnamed, hmethM, hcM, -, hlM, -, -, -, hsigM⟩ := Cond.codeWith_spec (hw _ (hT _ h5))
  have hstatic : methM.isStatic = true := Cond.static_spec hnamed hmethM (hw _ (hT _ h2))
  obtain ⟨kP, hkP, -⟩ := className_of_methodNamed hnamed
  have hinitP : kP.init = .initialized := Cond.initialized_spec (findClass_of_methodNamed hnamed) hkP (hw _ (hT _ h4))
  have hlen : As.length = methM.sig.parameters.length := by
    have h2 := hd.2.2
    rw [hsigM] at h2
    rw [hn]
    exact (Option.some.inj h2).symm
  obtain ⟨vm₁, X₁, hstep₁⟩ := X.invokestatic hx ho (hw _ (hT _ h1)) hnamed hmethM hstatic hkP hinitP ⟨hd.1, hd.2.1⟩ (g := F0 m pc ls st0) rfl (argsL := As) (rest := rest) hlen hst hdg
  have hU : (T.setVm vm₁).heap = H := hT0
  have hWm := X₁.warmed
  have hn1 := X₁.named hnamed
  obtain ⟨kY, hkY, -⟩ := className_of_methodNamed hn1
  have hmY : (T.setVm vm₁).vm.method? mk = some methM := by rw [hWm.alike.method?]; exact hmethM
  have hws : ∀ w ∈ (Cond.codeWith y bytes maxL ret hs :: WT), ∀ a' V, s.WarmedH V.vm → w.before a' V = true := fun w hw' a' V hV => word_at hV (by
    rcases List.mem_cons.mp hw' with rfl | h
    · exact wt_good h5
    · exact wt_good h) (by
    rcases List.mem_cons.mp hw' with rfl | h
    · exact hw _ (hT _ h5)
    · exact hw _ (hT _ h))
  have hini' : (Cond.initialized y.cls).before #[] (T.setVm vm₁) = true := hws _ (List.mem_cons_of_mem _ h4) _ _ hWm
  have hinitY : kY.init = .initialized := Cond.initialized_spec (findClass_of_methodNamed hn1) hkY hini'
  have h : At (T.setVm vm₁) m c below := X₁.here
  have hpre : (headSpec (Cond.codeWith y bytes maxL ret hs :: WT) rm).pre.before As.toArray (T.setVm vm₁) = true := atoms_intro fun w hw' => hws w hw' _ _ hWm
  have hPc0 : cPreH D cl tys wc H.size As As.toArray (T.setVm vm₁) := ⟨rfl, by rw [hU], by rw [hU]; exact hPc, va_K.moved hWm.alike hK, hDc.weaken (fun _ _ _ _ => trivial), by rw [hU]; exact hok.to hS hFc hWm, hcs.warm hWm⟩
  have happ : (headSpec (Cond.codeWith y bytes maxL ret hs :: WT) rm).appliesLoose y e.platform ((T.setVm vm₁).calling (F0 m pc ls rest) mk As.toArray) = true :=
    Spec.appliesLoose_calling (g := F0 m pc ls rest) h hdg hn1 hkY hinitY
      (X₁.room_calling (g := F0 m pc ls rest) (R' := (headSpec (Cond.codeWith y bytes maxL ret hs :: WT) rm).room) (hsz.trans hml.symm) hmY hcM hRm.1 (by
        rw [hlM]
        have h1 : (headSpec (Cond.codeWith y bytes maxL ret hs :: WT) rm).room.locals = rm.locals := rfl
        have h2 := lv_room (m := m) (pc := pc) (ls := ls) (rest := rest) hW
        have h3 : (F0 m pc ls rest).stack = rest := rfl
        rw [h3]
        have h4 := hRm.2
        omega) hf.1 hf.2) hpre
  have hfr0 : ((T.setVm vm₁).setTop (F0 m pc ls rest)).frames = .java (F0 m pc ls rest) :: below := by rw [State.frames_setTop' _ h.top, X₁.tail]
  have hfr : ((T.setVm vm₁).setTop (F0 m pc ls rest)).frames = [.java (F0 m pc ls rest)] ++ below := hfr0
  obtain ⟨o, t, hsteps, -, hend, hq, L, ⟨⟨v, rfl⟩, hW2, hsame⟩, hL⟩ := Steps.callFree hM p X₁.admits X₁.cas X₁.clock (acts := []) hfr happ (cPreH_blind _ _ _ _ hPc0) trivial
  rw [hfr0] at hend
  obtain ⟨T', X', -, -, ht⟩ := X₁.outOf (g := F0 m pc ls rest) rfl hdg hend hW2 hsame
  obtain ⟨⟨r, u, hv, hp, hP1, hK1, hD1⟩, hF⟩ := hq
  cases hv
  have e1 : T'.heap = t.heap := by rw [ht]; rfl
  have hF' : va_F (va_A wc H.size) ((T.setVm vm₁).calling (F0 m pc ls rest) mk As.toArray) t := hF
  have h0 : ((T.setVm vm₁).calling (F0 m pc ls rest) mk As.toArray).heap = H := hT0
  rw [← e1] at hP1
  obtain ⟨hz, hk⟩ := id hF'
  rw [h0, ← e1] at hz hk
  obtain ⟨hP', hD'⟩ := va_join (wr := wr) (w1 := w1 u) hP hD isC isR hC hR hnR hdis hk hFc hP1 hD1
  obtain ⟨t2, a1, b1⟩ := kk r u T'.heap (locs ++ L) hp hP' hD' (x_S hD hS hA isC hC h0 hL e1 hF') T' rfl X'
  exact ⟨t2, hstep₁ _ fun acts => by rw [doInvoke_state]; rw [ht] at hsteps; exact hsteps.trans a1, b1⟩
end XCALL
