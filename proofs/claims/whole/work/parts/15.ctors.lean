/-- a new array of a kind that the world's array classes name -/
theorem nw_a {p : Program} {l : Launch} {e : Env} {R : Room} {s : State} {m : MethodId} {args : Array Value} {below : List Frame} {meth : Method} {c : Code} {H : Heap} {locs : List Loc} {cells slots : Nat} {Q : State → Prop} {cc : ByteArray} {pc : Nat} {ls : Array Slot} {rest : List Value} {D : va_G} {cl : List vw_C} {A : Nat → Prop} {tys : List (ClassId × FieldType)} {ws : va_W} {H0 : Heap} {cA0 : ClassId}
    (hexec : p.tables.exec = Jvm.exec) (hb : c.code = cc) {atype : ArrayType} (harr : (Cond.arrayClass (newarray.typeOf atype)).before args s = true) {ty : FieldType} (hty : newarray.typeOf atype = ty) (hK : va_K D cl tys s) (hP : va_P D cl ws H) (hD : va_D A ws) (hS : va_S A H0 H locs) (hA : ∀ q, H0.size ≤ q → A q) (t0 : Nat) (ht : tys[t0]? = some (cA0, ty)) (hra : ∀ cA, va_RA s cA ty → s.vm.findClass ("[" ++ ty.toString) = some cA)
    {n : Int32} {N' : Nat} {a0 : vp_A} (ha : ∀ cA : ClassId, vp_cell cA a0 = arrV cA N' (fun _ => defaultValue ty)) (hn : ¬ n < 0) (hN : n.toNatClampNeg = N') (hbytes : N' * componentBytes ty ≤ 536870912) (hcells : cells + 1 ≤ R.cells) (hslots : slots + N' ≤ R.slots) (hdg : decode cc pc = .ok (.newarray atype, 2))
    (kk : ∀ (q : Nat) (H1 : Heap), va_P D cl (ws ++ [(q, .inl (cA0, a0))]) H1 → va_D A (ws ++ [(q, .inl (cA0, a0))]) → va_S A H0 H1 locs →
      W p l e R s m args below meth c H1 locs (cells + 1) (slots + N') Q (F0 m (pc + 2) ls (.ref q :: rest))) : W p l e R s m args below meth c H locs cells slots Q (F0 m pc ls (.int n :: rest)) := by
  refine va_newa hexec hb harr hty hK hP hD hS hA ha hn hN hbytes hcells hslots hdg fun q cA H1 hK1 hP1 hD1 hS1 => ?_
  have h1 := hra cA (hK1.2 tys.length (cA, ty) (by simp)).2
  have h2 := hra cA0 (hK.2 t0 _ ht).2
  cases h1.symm.trans h2
  exact kk q H1 hP1 hD1 hS1
/-- the two constructors that only nest mates may call -/
def nst (U : State) : Prop := va_Nw (.methodLinkNest "SuffixIndex" 23 ⟨"SuffixIndex$Library", "<init>", "()V"⟩ "SuffixIndex") U ∧ va_Nw (.methodLinkNest "SuffixIndex$SuffixOrder" 27 ⟨"SuffixIndex$Sorter", "<init>", "()V"⟩ "SuffixIndex") U
theorem nst.warm {s U : State} (hW : s.WarmedH U.vm) (h : nst s) : nst U := ⟨va_Nw.warmM hW h.1, va_Nw.warmM hW h.2⟩
abbrev cPreN (D : va_G) (cl : List vw_C) (tys : List (ClassId × FieldType)) (wc : va_W) (sz : Nat) (av : List Value) : Array Value → State → Prop := va_Pc av (fun U => U.heap.size = sz ∧ va_P D cl wc U.heap ∧ va_K D cl tys U ∧ va_D (fun _ => True) wc ∧ nst U)
theorem cPreN_blind {D : va_G} {cl : List vw_C} {tys : List (ClassId × FieldType)} {wc : va_W} {sz : Nat} {av : List Value} : FrameBlind (cPreN D cl tys wc sz av) := fun a U g mk q => by
  obtain ⟨q0, q1, qP, qK, qD, qN⟩ := q
  exact ⟨q0, q1, qP, va_K.moved (u := U) (U := U.calling g mk a) (Vm.Alike.refl U.vm) qK, qD, ⟨va_tabs rfl (rfl : U.vm = (U.calling g mk a).vm) qN.1, va_tabs rfl (rfl : U.vm = (U.calling g mk a).vm) qN.2⟩⟩
theorem cw_IN {R : Room} {s : State} {args : Array Value} {own host : String} {index : Nat} {y : MethodName} {bytes : ByteArray} {maxL : Nat} {rm : Room} {mc ms : Nat} {Ts : List Cond} (hT : ∀ w ∈ WT, w ∈ Ts) (n : Nat) (ht : ∀ w ∈ Ts, w.before args s = true)
    (h1 : va_Nw (.methodLinkNest own index y host) s) (h2 : Cond.instanceMethod y ∈ WT) (h4 : Cond.initialized y.cls ∈ WT) (h5 : Cond.code y bytes maxL none ∈ WT) (hrc : rm.cells = mc) (hrs : rm.slots = ms) (hy1 : y.name = "<init>")
    (hd : y.cls ≠ "java/lang/invoke/MethodHandle" ∧ y.cls ≠ "java/lang/invoke/VarHandle" ∧ (parseMethodDescriptor y.desc).map (fun d => d.parameters.length) = some n) (hR : rm.frames + 1 ≤ R.frames ∧ 8 + (maxL + 11) + rm.locals ≤ R.locals) :
    va_CN R s args own index y host bytes maxL none (Cond.code y bytes maxL none :: WT) rm mc ms n ∧ y.name = "<init>" ∧ (Cond.instanceMethod y).before args s = true :=
  ⟨va_cnB n ht (good_c hT h5) rfl hrc hrs h1 (ht _ (hT _ h4)) hd hR, hy1, ht _ (hT _ h2)⟩
section CTORS
variable {p : Program} {l : Launch} {e : Env} {R : Room} {s : State} {m : MethodId} {args : Array Value} {below : List Frame} {meth : Method} {c : Code} {H : Heap} {locs : List Loc} {cells slots : Nat} {Q : State → Prop}
variable {pc : Nat} {ls : Array Slot} {rest st0 : List Value} {A : Nat → Prop} {mc ms : Nat}
variable {y : MethodName} {bytes cc : ByteArray} {maxL nL n index : Nat} {ret : Option FieldType} {wy : List Cond} {rm : Room} {Ts : List Cond} {own host : String} {b : Addr} {As : List Value} {D : va_G} {cl : List vw_C} {tys : List (ClassId × FieldType)} {wc wr ws : va_W}
theorem cIN_v {S : Type} {post : S → Prop} {w1 : S → va_W} (hM : Met l y wy rm (cPre D cl tys wc H.size (.ref b :: As)) (va_Qv post (fun u t => cAft D cl tys (va_A wc H.size) (w1 u) t) (va_A wc H.size)) mc ms (va_A wc H.size))
    (F : CallFix p m c cc nL s args Ts own) (cw : va_CN R s args own index y host bytes maxL none wy rm mc ms n ∧ y.name = "<init>" ∧ (Cond.instanceMethod y).before args s = true) (hK : va_K D cl tys s) (hP : va_P D cl ws H) (hD : va_D A ws) (hS : va_S A s.heap H locs) (hA : ∀ q, s.heap.size ≤ q → A q)
    (isC isR : List Nat) (hnC : va_nd isC = true) (hC : isC.map (fun i => ws[i]?) = wc.map some) (hR : isR.map (fun i => ws[i]?) = wr.map some) (hnR : va_nd isR = true) (hdis : ∀ i ∈ isR, i ∉ isC)
    (hn : As.length = n) (hsz : ls.size = nL) (hst : st0 = As.reverse ++ .ref b :: rest) (hW : (rest.map fun v => v.category).sum ≤ 8) (hdg : decode cc pc = .ok (.invokespecial index, 3)) (hf : cells + mc ≤ R.cells ∧ slots + ms ≤ R.slots)
    (kk : ∀ (u : S) (H1 : Heap) (locs1 : List Loc), post u → va_P D cl (wr ++ w1 u) H1 → va_D A (wr ++ w1 u) → va_S A s.heap H1 locs1 → W p l e R s m args below meth c H1 locs1 (cells + mc) (slots + ms) Q (F0 m (pc + 3) ls (rest))) : W p l e R s m args below meth c H locs cells slots Q (F0 m pc ls st0) :=
  have hPc := P_sub hP isC hC
  have hDc := hD.sub isC hnC hC
  cv_v (va_runIN F hM cw ⟨cPre_blind, fun U hU hWm => ⟨rfl, by rw [hU], by rw [hU]; exact hPc, va_K.moved hWm.alike hK, hDc.weaken (fun _ _ _ _ => trivial)⟩⟩ rfl hn hsz hst (lv_room (m := m) (pc := pc) (ls := ls) (rest := st0) hW) hdg hf) hP hD hS hA isC isR hC hR hnR hdis kk
theorem cIM_v {S : Type} {post : S → Prop} {w1 : S → va_W} (hM : Met l y wy rm (cPreN D cl tys wc H.size (.ref b :: As)) (va_Qv post (fun u t => cAft D cl tys (va_A wc H.size) (w1 u) t) (va_A wc H.size)) mc ms (va_A wc H.size))
    (F : CallFix p m c cc nL s args Ts own) (cw : CallB R s args own index y bytes maxL none wy rm mc ms n ∧ y.name = "<init>" ∧ (Cond.instanceMethod y).before args s = true) (hN : nst s) (hK : va_K D cl tys s) (hP : va_P D cl ws H) (hD : va_D A ws) (hS : va_S A s.heap H locs) (hA : ∀ q, s.heap.size ≤ q → A q)
    (isC isR : List Nat) (hnC : va_nd isC = true) (hC : isC.map (fun i => ws[i]?) = wc.map some) (hR : isR.map (fun i => ws[i]?) = wr.map some) (hnR : va_nd isR = true) (hdis : ∀ i ∈ isR, i ∉ isC)
    (hn : As.length = n) (hsz : ls.size = nL) (hst : st0 = As.reverse ++ .ref b :: rest) (hW : (rest.map fun v => v.category).sum ≤ 8) (hdg : decode cc pc = .ok (.invokespecial index, 3)) (hf : cells + mc ≤ R.cells ∧ slots + ms ≤ R.slots)
    (kk : ∀ (u : S) (H1 : Heap) (locs1 : List Loc), post u → va_P D cl (wr ++ w1 u) H1 → va_D A (wr ++ w1 u) → va_S A s.heap H1 locs1 → W p l e R s m args below meth c H1 locs1 (cells + mc) (slots + ms) Q (F0 m (pc + 3) ls (rest))) : W p l e R s m args below meth c H locs cells slots Q (F0 m pc ls st0) :=
  have hPc := P_sub hP isC hC
  have hDc := hD.sub isC hnC hC
  cv_v (va_runI F hM cw ⟨cPreN_blind, fun U hU hWm => ⟨rfl, by rw [hU], by rw [hU]; exact hPc, va_K.moved hWm.alike hK, hDc.weaken (fun _ _ _ _ => trivial), hN.warm hWm⟩⟩ rfl hn hsz hst (lv_room (m := m) (pc := pc) (ls := ls) (rest := st0) hW) hdg hf) hP hD hS hA isC isR hC hR hnR hdis kk
end CTORS
set_option maxRecDepth 100000 in
theorem m_101 : Cond.instanceMethod ⟨"SuffixIndex$Sorter", "<init>", "()V"⟩ ∈ WT := wt_t1 101 rfl rfl
set_option maxRecDepth 100000 in
theorem m_102 : Cond.code ⟨"SuffixIndex$Sorter", "<init>", "()V"⟩ prog_6_method_1_code 1 none ∈ WT := wt_t1 102 rfl rfl
set_option maxRecDepth 100000 in
theorem m_103 : Cond.methodLink "SuffixIndex$Sorter" 3 ⟨"java/lang/Object", "<init>", "()V"⟩ ∈ WT := wt_t1 103 rfl rfl
set_option maxRecDepth 100000 in
theorem m_1100 : Cond.methodLink "SuffixIndexModel" 1 ⟨"java/lang/Object", "<init>", "()V"⟩ ∈ WT := wt_t5 140 rfl rfl
set_option maxRecDepth 100000 in
theorem m_1168 : Cond.arrayClass .boolean ∈ WT := wt_t5 208 rfl rfl
set_option maxRecDepth 100000 in
theorem m_117 : Cond.arrayClass .long ∈ WT := wt_t1 117 rfl rfl
set_option maxRecDepth 100000 in
theorem m_166 : Cond.classLink "SuffixIndex" 37 "SuffixIndex$Search" ∈ WT := wt_t1 166 rfl rfl
set_option maxRecDepth 100000 in
theorem m_167 : Cond.instantiable "SuffixIndex$Search" 11 ∈ WT := wt_t1 167 rfl rfl
set_option maxRecDepth 100000 in
theorem m_168 : Cond.methodLink "SuffixIndex" 39 ⟨"SuffixIndex$Search", "<init>", "(LSuffixIndex$Library;LSuffixIndex$SuffixOrder;)V"⟩ ∈ WT := wt_t1 168 rfl rfl
set_option maxRecDepth 100000 in
theorem m_169 : Cond.instanceMethod ⟨"SuffixIndex$Search", "<init>", "(LSuffixIndex$Library;LSuffixIndex$SuffixOrder;)V"⟩ ∈ WT := wt_t1 169 rfl rfl
set_option maxRecDepth 100000 in
theorem m_170 : Cond.code ⟨"SuffixIndex$Search", "<init>", "(LSuffixIndex$Library;LSuffixIndex$SuffixOrder;)V"⟩ prog_5_method_1_code 3 none ∈ WT := wt_t1 170 rfl rfl
set_option maxRecDepth 100000 in
theorem m_171 : Cond.methodLink "SuffixIndex$Search" 3 ⟨"java/lang/Object", "<init>", "()V"⟩ ∈ WT := wt_t1 171 rfl rfl
set_option maxRecDepth 100000 in
theorem m_172 : Cond.classLink "SuffixIndex$Search" 9 "SuffixIndex$ByteRow" ∈ WT := wt_t1 172 rfl rfl
set_option maxRecDepth 100000 in
theorem m_173 : Cond.methodLink "SuffixIndex$Search" 11 ⟨"SuffixIndex$ByteRow", "<init>", "(I)V"⟩ ∈ WT := wt_t1 173 rfl rfl
set_option maxRecDepth 100000 in
theorem m_214 : Cond.classLink "SuffixIndex" 46 "SuffixIndex$Window" ∈ WT := wt_t1 214 rfl rfl
set_option maxRecDepth 100000 in
theorem m_215 : Cond.instantiable "SuffixIndex$Window" 8 ∈ WT := wt_t1 215 rfl rfl
set_option maxRecDepth 100000 in
theorem m_216 : Cond.methodLink "SuffixIndex" 48 ⟨"SuffixIndex$Window", "<init>", "(LSuffixIndex$Library;LSuffixIndex$SuffixOrder;)V"⟩ ∈ WT := wt_t1 216 rfl rfl
set_option maxRecDepth 100000 in
theorem m_217 : Cond.instanceMethod ⟨"SuffixIndex$Window", "<init>", "(LSuffixIndex$Library;LSuffixIndex$SuffixOrder;)V"⟩ ∈ WT := wt_t1 217 rfl rfl
set_option maxRecDepth 100000 in
theorem m_218 : Cond.code ⟨"SuffixIndex$Window", "<init>", "(LSuffixIndex$Library;LSuffixIndex$SuffixOrder;)V"⟩ prog_8_method_1_code 3 none ∈ WT := wt_t1 218 rfl rfl
set_option maxRecDepth 100000 in
theorem m_219 : Cond.methodLink "SuffixIndex$Window" 3 ⟨"java/lang/Object", "<init>", "()V"⟩ ∈ WT := wt_t1 219 rfl rfl
set_option maxRecDepth 100000 in
theorem m_247 : Cond.classLink "SuffixIndex" 53 "SuffixIndex$PhraseBook" ∈ WT := wt_t2 7 rfl rfl
set_option maxRecDepth 100000 in
theorem m_248 : Cond.instantiable "SuffixIndex$PhraseBook" 6 ∈ WT := wt_t2 8 rfl rfl
set_option maxRecDepth 100000 in
theorem m_249 : Cond.methodLink "SuffixIndex" 55 ⟨"SuffixIndex$PhraseBook", "<init>", "(LSuffixIndex$Library;LSuffixIndex$SuffixOrder;)V"⟩ ∈ WT := wt_t2 9 rfl rfl
set_option maxRecDepth 100000 in
theorem m_250 : Cond.instanceMethod ⟨"SuffixIndex$PhraseBook", "<init>", "(LSuffixIndex$Library;LSuffixIndex$SuffixOrder;)V"⟩ ∈ WT := wt_t2 10 rfl rfl
set_option maxRecDepth 100000 in
theorem m_251 : Cond.code ⟨"SuffixIndex$PhraseBook", "<init>", "(LSuffixIndex$Library;LSuffixIndex$SuffixOrder;)V"⟩ prog_4_method_1_code 3 none ∈ WT := wt_t2 11 rfl rfl
set_option maxRecDepth 100000 in
theorem m_252 : Cond.methodLink "SuffixIndex$PhraseBook" 3 ⟨"java/lang/Object", "<init>", "()V"⟩ ∈ WT := wt_t2 12 rfl rfl
set_option maxRecDepth 100000 in
theorem m_34 : Cond.methodLink "SuffixIndex" 3 ⟨"java/lang/Object", "<init>", "()V"⟩ ∈ WT := wt_t1 34 rfl rfl
set_option maxRecDepth 100000 in
theorem m_37 : Cond.classLink "SuffixIndex" 9 "SuffixIndex$ByteRow" ∈ WT := wt_t1 37 rfl rfl
set_option maxRecDepth 100000 in
theorem m_38 : Cond.instantiable "SuffixIndex$ByteRow" 2 ∈ WT := wt_t1 38 rfl rfl
set_option maxRecDepth 100000 in
theorem m_39 : Cond.methodLink "SuffixIndex" 11 ⟨"SuffixIndex$ByteRow", "<init>", "(I)V"⟩ ∈ WT := wt_t1 39 rfl rfl
set_option maxRecDepth 100000 in
theorem m_399 : Cond.arrayClass .byte ∈ WT := wt_t2 159 rfl rfl
set_option maxRecDepth 100000 in
theorem m_40 : Cond.instanceMethod ⟨"SuffixIndex$ByteRow", "<init>", "(I)V"⟩ ∈ WT := wt_t1 40 rfl rfl
set_option maxRecDepth 100000 in
theorem m_41 : Cond.code ⟨"SuffixIndex$ByteRow", "<init>", "(I)V"⟩ prog_2_method_1_code 2 none ∈ WT := wt_t1 41 rfl rfl
set_option maxRecDepth 100000 in
theorem m_42 : Cond.methodLink "SuffixIndex$ByteRow" 1 ⟨"java/lang/Object", "<init>", "()V"⟩ ∈ WT := wt_t1 42 rfl rfl
set_option maxRecDepth 100000 in
theorem m_58 : Cond.arrayClass .int ∈ WT := wt_t1 58 rfl rfl
set_option maxRecDepth 100000 in
theorem m_59 : Cond.classLink "SuffixIndex" 21 "SuffixIndex$Library" ∈ WT := wt_t1 59 rfl rfl
set_option maxRecDepth 100000 in
theorem m_60 : Cond.instantiable "SuffixIndex$Library" 5 ∈ WT := wt_t1 60 rfl rfl
set_option maxRecDepth 100000 in
theorem m_62 : Cond.instanceMethod ⟨"SuffixIndex$Library", "<init>", "()V"⟩ ∈ WT := wt_t1 62 rfl rfl
set_option maxRecDepth 100000 in
theorem m_63 : Cond.code ⟨"SuffixIndex$Library", "<init>", "()V"⟩ prog_3_method_1_code 1 none ∈ WT := wt_t1 63 rfl rfl
set_option maxRecDepth 100000 in
theorem m_64 : Cond.methodLink "SuffixIndex$Library" 3 ⟨"java/lang/Object", "<init>", "()V"⟩ ∈ WT := wt_t1 64 rfl rfl
set_option maxRecDepth 100000 in
theorem m_92 : Cond.classLink "SuffixIndex" 28 "SuffixIndex$SuffixOrder" ∈ WT := wt_t1 92 rfl rfl
set_option maxRecDepth 100000 in
theorem m_93 : Cond.instantiable "SuffixIndex$SuffixOrder" 10 ∈ WT := wt_t1 93 rfl rfl
set_option maxRecDepth 100000 in
theorem m_94 : Cond.methodLink "SuffixIndex" 30 ⟨"SuffixIndex$SuffixOrder", "<init>", "(LSuffixIndex$Library;)V"⟩ ∈ WT := wt_t1 94 rfl rfl
set_option maxRecDepth 100000 in
theorem m_95 : Cond.instanceMethod ⟨"SuffixIndex$SuffixOrder", "<init>", "(LSuffixIndex$Library;)V"⟩ ∈ WT := wt_t1 95 rfl rfl
set_option maxRecDepth 100000 in
theorem m_96 : Cond.code ⟨"SuffixIndex$SuffixOrder", "<init>", "(LSuffixIndex$Library;)V"⟩ prog_7_method_1_code 2 none ∈ WT := wt_t1 96 rfl rfl
set_option maxRecDepth 100000 in
theorem m_97 : Cond.methodLink "SuffixIndex$SuffixOrder" 3 ⟨"java/lang/Object", "<init>", "()V"⟩ ∈ WT := wt_t1 97 rfl rfl
set_option maxRecDepth 100000 in
theorem m_98 : Cond.classLink "SuffixIndex$SuffixOrder" 25 "SuffixIndex$Sorter" ∈ WT := wt_t1 98 rfl rfl
set_option maxRecDepth 100000 in
theorem m_99 : Cond.instantiable "SuffixIndex$Sorter" 4 ∈ WT := wt_t1 99 rfl rfl
abbrev b_BR_init : ByteArray := prog_2_method_1_code
abbrev y_BR_init : MethodName := ⟨"SuffixIndex$ByteRow", "<init>", "(I)V"⟩
abbrev rm_BR_init (n : Nat) : Room := { frames := 8, cells := 1, slots := n, locals := 64 }
abbrev b_LB_init : ByteArray := prog_3_method_1_code
abbrev y_LB_init : MethodName := ⟨"SuffixIndex$Library", "<init>", "()V"⟩
abbrev rm_LB_init : Room := { frames := 8, cells := 3, slots := 32961, locals := 64 }
abbrev b_SO_init : ByteArray := prog_6_method_1_code
abbrev y_SO_init : MethodName := ⟨"SuffixIndex$Sorter", "<init>", "()V"⟩
abbrev rm_SO_init : Room := { frames := 8, cells := 3, slots := 49344, locals := 64 }
abbrev b_OR_init : ByteArray := prog_7_method_1_code
abbrev y_OR_init : MethodName := ⟨"SuffixIndex$SuffixOrder", "<init>", "(LSuffixIndex$Library;)V"⟩
abbrev rm_OR_init : Room := { frames := 16, cells := 8, slots := 115140, locals := 128 }
abbrev b_SE_init : ByteArray := prog_5_method_1_code
abbrev y_SE_init : MethodName := ⟨"SuffixIndex$Search", "<init>", "(LSuffixIndex$Library;LSuffixIndex$SuffixOrder;)V"⟩
abbrev rm_SE_init : Room := { frames := 16, cells := 6, slots := 16658, locals := 128 }
abbrev b_WI_init : ByteArray := prog_8_method_1_code
abbrev y_WI_init : MethodName := ⟨"SuffixIndex$Window", "<init>", "(LSuffixIndex$Library;LSuffixIndex$SuffixOrder;)V"⟩
abbrev rm_WI_init : Room := { frames := 8, cells := 2, slots := 16512, locals := 64 }
abbrev b_PB_init : ByteArray := prog_4_method_1_code
abbrev y_PB_init : MethodName := ⟨"SuffixIndex$PhraseBook", "<init>", "(LSuffixIndex$Library;LSuffixIndex$SuffixOrder;)V"⟩
abbrev rm_PB_init : Room := { frames := 8, cells := 2, slots := 16512, locals := 64 }
abbrev b_SI_init : ByteArray := prog_1_method_1_code
abbrev y_SI_init : MethodName := ⟨"SuffixIndex", "<init>", "()V"⟩
abbrev rm_SI_init : Room := { frames := 24, cells := 30, slots := 230595, locals := 192 }
abbrev b_MD_init : ByteArray := prog_10_method_1_code
abbrev y_MD_init : MethodName := ⟨"SuffixIndexModel", "<init>", "()V"⟩
abbrev rm_MD_init : Room := { frames := 8, cells := 13, slots := 147851, locals := 64 }
theorem d_BR_init_0 : decode b_BR_init 0 = .ok (.aload_n 0, 1) := by decide +kernel
theorem d_BR_init_1 : decode b_BR_init 1 = .ok (.invokespecial 1, 3) := by decide +kernel
theorem d_BR_init_4 : decode b_BR_init 4 = .ok (.aload_n 0, 1) := by decide +kernel
theorem d_BR_init_5 : decode b_BR_init 5 = .ok (.iload_n 1, 1) := by decide +kernel
theorem d_BR_init_6 : decode b_BR_init 6 = .ok (.newarray .int, 2) := by decide +kernel
theorem d_BR_init_8 : decode b_BR_init 8 = .ok (.putfield 7, 3) := by decide +kernel
theorem d_BR_init_11 : decode b_BR_init 11 = .ok (.return_, 1) := by decide +kernel
theorem d_LB_init_0 : decode b_LB_init 0 = .ok (.aload_n 0, 1) := by decide +kernel
theorem d_LB_init_1 : decode b_LB_init 1 = .ok (.invokespecial 3, 3) := by decide +kernel
theorem d_LB_init_4 : decode b_LB_init 4 = .ok (.aload_n 0, 1) := by decide +kernel
theorem d_LB_init_5 : decode b_LB_init 5 = .ok (.sipush 16448, 3) := by decide +kernel
theorem d_LB_init_8 : decode b_LB_init 8 = .ok (.newarray .int, 2) := by decide +kernel
theorem d_LB_init_10 : decode b_LB_init 10 = .ok (.putfield 9, 3) := by decide +kernel
theorem d_LB_init_13 : decode b_LB_init 13 = .ok (.aload_n 0, 1) := by decide +kernel
theorem d_LB_init_14 : decode b_LB_init 14 = .ok (.sipush 16448, 3) := by decide +kernel
theorem d_LB_init_17 : decode b_LB_init 17 = .ok (.newarray .int, 2) := by decide +kernel
theorem d_LB_init_19 : decode b_LB_init 19 = .ok (.putfield 15, 3) := by decide +kernel
theorem d_LB_init_22 : decode b_LB_init 22 = .ok (.aload_n 0, 1) := by decide +kernel
theorem d_LB_init_23 : decode b_LB_init 23 = .ok (.bipush 65, 2) := by decide +kernel
theorem d_LB_init_25 : decode b_LB_init 25 = .ok (.newarray .int, 2) := by decide +kernel
theorem d_LB_init_27 : decode b_LB_init 27 = .ok (.putfield 18, 3) := by decide +kernel
theorem d_LB_init_30 : decode b_LB_init 30 = .ok (.return_, 1) := by decide +kernel
theorem d_SO_init_0 : decode b_SO_init 0 = .ok (.aload_n 0, 1) := by decide +kernel
theorem d_SO_init_1 : decode b_SO_init 1 = .ok (.invokespecial 3, 3) := by decide +kernel
theorem d_SO_init_4 : decode b_SO_init 4 = .ok (.aload_n 0, 1) := by decide +kernel
theorem d_SO_init_5 : decode b_SO_init 5 = .ok (.sipush 16448, 3) := by decide +kernel
theorem d_SO_init_8 : decode b_SO_init 8 = .ok (.newarray .int, 2) := by decide +kernel
theorem d_SO_init_10 : decode b_SO_init 10 = .ok (.putfield 9, 3) := by decide +kernel
theorem d_SO_init_13 : decode b_SO_init 13 = .ok (.aload_n 0, 1) := by decide +kernel
theorem d_SO_init_14 : decode b_SO_init 14 = .ok (.sipush 16448, 3) := by decide +kernel
theorem d_SO_init_17 : decode b_SO_init 17 = .ok (.newarray .int, 2) := by decide +kernel
theorem d_SO_init_19 : decode b_SO_init 19 = .ok (.putfield 15, 3) := by decide +kernel
theorem d_SO_init_22 : decode b_SO_init 22 = .ok (.aload_n 0, 1) := by decide +kernel
theorem d_SO_init_23 : decode b_SO_init 23 = .ok (.sipush 16448, 3) := by decide +kernel
theorem d_SO_init_26 : decode b_SO_init 26 = .ok (.newarray .int, 2) := by decide +kernel
theorem d_SO_init_28 : decode b_SO_init 28 = .ok (.putfield 18, 3) := by decide +kernel
theorem d_SO_init_31 : decode b_SO_init 31 = .ok (.return_, 1) := by decide +kernel
theorem d_OR_init_0 : decode b_OR_init 0 = .ok (.aload_n 0, 1) := by decide +kernel
theorem d_OR_init_1 : decode b_OR_init 1 = .ok (.invokespecial 3, 3) := by decide +kernel
theorem d_OR_init_4 : decode b_OR_init 4 = .ok (.aload_n 0, 1) := by decide +kernel
theorem d_OR_init_5 : decode b_OR_init 5 = .ok (.sipush 16448, 3) := by decide +kernel
theorem d_OR_init_8 : decode b_OR_init 8 = .ok (.newarray .int, 2) := by decide +kernel
theorem d_OR_init_10 : decode b_OR_init 10 = .ok (.putfield 9, 3) := by decide +kernel
theorem d_OR_init_13 : decode b_OR_init 13 = .ok (.aload_n 0, 1) := by decide +kernel
theorem d_OR_init_14 : decode b_OR_init 14 = .ok (.sipush 16448, 3) := by decide +kernel
theorem d_OR_init_17 : decode b_OR_init 17 = .ok (.newarray .int, 2) := by decide +kernel
theorem d_OR_init_19 : decode b_OR_init 19 = .ok (.putfield 15, 3) := by decide +kernel
theorem d_OR_init_22 : decode b_OR_init 22 = .ok (.aload_n 0, 1) := by decide +kernel
theorem d_OR_init_23 : decode b_OR_init 23 = .ok (.sipush 16448, 3) := by decide +kernel
theorem d_OR_init_26 : decode b_OR_init 26 = .ok (.newarray .int, 2) := by decide +kernel
theorem d_OR_init_28 : decode b_OR_init 28 = .ok (.putfield 18, 3) := by decide +kernel
theorem d_OR_init_31 : decode b_OR_init 31 = .ok (.aload_n 0, 1) := by decide +kernel
theorem d_OR_init_32 : decode b_OR_init 32 = .ok (.sipush 16448, 3) := by decide +kernel
theorem d_OR_init_35 : decode b_OR_init 35 = .ok (.newarray .long, 2) := by decide +kernel
theorem d_OR_init_37 : decode b_OR_init 37 = .ok (.putfield 21, 3) := by decide +kernel
theorem d_OR_init_40 : decode b_OR_init 40 = .ok (.aload_n 0, 1) := by decide +kernel
theorem d_OR_init_41 : decode b_OR_init 41 = .ok (.new 25, 3) := by decide +kernel
theorem d_OR_init_44 : decode b_OR_init 44 = .ok (.dup, 1) := by decide +kernel
theorem d_OR_init_45 : decode b_OR_init 45 = .ok (.invokespecial 27, 3) := by decide +kernel
theorem d_OR_init_48 : decode b_OR_init 48 = .ok (.putfield 28, 3) := by decide +kernel
theorem d_OR_init_51 : decode b_OR_init 51 = .ok (.aload_n 0, 1) := by decide +kernel
theorem d_OR_init_52 : decode b_OR_init 52 = .ok (.aload_n 1, 1) := by decide +kernel
theorem d_OR_init_53 : decode b_OR_init 53 = .ok (.putfield 32, 3) := by decide +kernel
theorem d_OR_init_56 : decode b_OR_init 56 = .ok (.return_, 1) := by decide +kernel
theorem d_SE_init_0 : decode b_SE_init 0 = .ok (.aload_n 0, 1) := by decide +kernel
theorem d_SE_init_1 : decode b_SE_init 1 = .ok (.invokespecial 3, 3) := by decide +kernel
theorem d_SE_init_4 : decode b_SE_init 4 = .ok (.aload_n 0, 1) := by decide +kernel
theorem d_SE_init_5 : decode b_SE_init 5 = .ok (.new 9, 3) := by decide +kernel
theorem d_SE_init_8 : decode b_SE_init 8 = .ok (.dup, 1) := by decide +kernel
theorem d_SE_init_9 : decode b_SE_init 9 = .ok (.sipush 200, 3) := by decide +kernel
theorem d_SE_init_12 : decode b_SE_init 12 = .ok (.invokespecial 11, 3) := by decide +kernel
theorem d_SE_init_15 : decode b_SE_init 15 = .ok (.putfield 14, 3) := by decide +kernel
theorem d_SE_init_18 : decode b_SE_init 18 = .ok (.aload_n 0, 1) := by decide +kernel
theorem d_SE_init_19 : decode b_SE_init 19 = .ok (.sipush 16384, 3) := by decide +kernel
theorem d_SE_init_22 : decode b_SE_init 22 = .ok (.newarray .int, 2) := by decide +kernel
theorem d_SE_init_24 : decode b_SE_init 24 = .ok (.putfield 20, 3) := by decide +kernel
theorem d_SE_init_27 : decode b_SE_init 27 = .ok (.aload_n 0, 1) := by decide +kernel
theorem d_SE_init_28 : decode b_SE_init 28 = .ok (.iconst 4, 1) := by decide +kernel
theorem d_SE_init_29 : decode b_SE_init 29 = .ok (.newarray .int, 2) := by decide +kernel
theorem d_SE_init_31 : decode b_SE_init 31 = .ok (.putfield 24, 3) := by decide +kernel
theorem d_SE_init_34 : decode b_SE_init 34 = .ok (.aload_n 0, 1) := by decide +kernel
theorem d_SE_init_35 : decode b_SE_init 35 = .ok (.iconst 4, 1) := by decide +kernel
theorem d_SE_init_36 : decode b_SE_init 36 = .ok (.newarray .int, 2) := by decide +kernel
theorem d_SE_init_38 : decode b_SE_init 38 = .ok (.putfield 27, 3) := by decide +kernel
theorem d_SE_init_41 : decode b_SE_init 41 = .ok (.aload_n 0, 1) := by decide +kernel
theorem d_SE_init_42 : decode b_SE_init 42 = .ok (.bipush 64, 2) := by decide +kernel
theorem d_SE_init_44 : decode b_SE_init 44 = .ok (.newarray .int, 2) := by decide +kernel
theorem d_SE_init_46 : decode b_SE_init 46 = .ok (.putfield 30, 3) := by decide +kernel
theorem d_SE_init_49 : decode b_SE_init 49 = .ok (.aload_n 0, 1) := by decide +kernel
theorem d_SE_init_50 : decode b_SE_init 50 = .ok (.aload_n 1, 1) := by decide +kernel
theorem d_SE_init_51 : decode b_SE_init 51 = .ok (.putfield 33, 3) := by decide +kernel
theorem d_SE_init_54 : decode b_SE_init 54 = .ok (.aload_n 0, 1) := by decide +kernel
theorem d_SE_init_55 : decode b_SE_init 55 = .ok (.aload_n 2, 1) := by decide +kernel
theorem d_SE_init_56 : decode b_SE_init 56 = .ok (.putfield 37, 3) := by decide +kernel
theorem d_SE_init_59 : decode b_SE_init 59 = .ok (.return_, 1) := by decide +kernel
theorem d_WI_init_0 : decode b_WI_init 0 = .ok (.aload_n 0, 1) := by decide +kernel
theorem d_WI_init_1 : decode b_WI_init 1 = .ok (.invokespecial 3, 3) := by decide +kernel
theorem d_WI_init_4 : decode b_WI_init 4 = .ok (.aload_n 0, 1) := by decide +kernel
theorem d_WI_init_5 : decode b_WI_init 5 = .ok (.bipush 64, 2) := by decide +kernel
theorem d_WI_init_7 : decode b_WI_init 7 = .ok (.newarray .int, 2) := by decide +kernel
theorem d_WI_init_9 : decode b_WI_init 9 = .ok (.putfield 9, 3) := by decide +kernel
theorem d_WI_init_12 : decode b_WI_init 12 = .ok (.aload_n 0, 1) := by decide +kernel
theorem d_WI_init_13 : decode b_WI_init 13 = .ok (.sipush 16448, 3) := by decide +kernel
theorem d_WI_init_16 : decode b_WI_init 16 = .ok (.newarray .int, 2) := by decide +kernel
theorem d_WI_init_18 : decode b_WI_init 18 = .ok (.putfield 15, 3) := by decide +kernel
theorem d_WI_init_21 : decode b_WI_init 21 = .ok (.aload_n 0, 1) := by decide +kernel
theorem d_WI_init_22 : decode b_WI_init 22 = .ok (.aload_n 1, 1) := by decide +kernel
theorem d_WI_init_23 : decode b_WI_init 23 = .ok (.putfield 18, 3) := by decide +kernel
theorem d_WI_init_26 : decode b_WI_init 26 = .ok (.aload_n 0, 1) := by decide +kernel
theorem d_WI_init_27 : decode b_WI_init 27 = .ok (.aload_n 2, 1) := by decide +kernel
theorem d_WI_init_28 : decode b_WI_init 28 = .ok (.putfield 22, 3) := by decide +kernel
theorem d_WI_init_31 : decode b_WI_init 31 = .ok (.return_, 1) := by decide +kernel
theorem d_PB_init_0 : decode b_PB_init 0 = .ok (.aload_n 0, 1) := by decide +kernel
theorem d_PB_init_1 : decode b_PB_init 1 = .ok (.invokespecial 3, 3) := by decide +kernel
theorem d_PB_init_4 : decode b_PB_init 4 = .ok (.aload_n 0, 1) := by decide +kernel
theorem d_PB_init_5 : decode b_PB_init 5 = .ok (.sipush 16448, 3) := by decide +kernel
theorem d_PB_init_8 : decode b_PB_init 8 = .ok (.newarray .long, 2) := by decide +kernel
theorem d_PB_init_10 : decode b_PB_init 10 = .ok (.putfield 9, 3) := by decide +kernel
theorem d_PB_init_13 : decode b_PB_init 13 = .ok (.aload_n 0, 1) := by decide +kernel
theorem d_PB_init_14 : decode b_PB_init 14 = .ok (.bipush 64, 2) := by decide +kernel
theorem d_PB_init_16 : decode b_PB_init 16 = .ok (.newarray .int, 2) := by decide +kernel
theorem d_PB_init_18 : decode b_PB_init 18 = .ok (.putfield 15, 3) := by decide +kernel
theorem d_PB_init_21 : decode b_PB_init 21 = .ok (.aload_n 0, 1) := by decide +kernel
theorem d_PB_init_22 : decode b_PB_init 22 = .ok (.aload_n 1, 1) := by decide +kernel
theorem d_PB_init_23 : decode b_PB_init 23 = .ok (.putfield 19, 3) := by decide +kernel
theorem d_PB_init_26 : decode b_PB_init 26 = .ok (.aload_n 0, 1) := by decide +kernel
theorem d_PB_init_27 : decode b_PB_init 27 = .ok (.aload_n 2, 1) := by decide +kernel
theorem d_PB_init_28 : decode b_PB_init 28 = .ok (.putfield 23, 3) := by decide +kernel
theorem d_PB_init_31 : decode b_PB_init 31 = .ok (.return_, 1) := by decide +kernel
theorem d_SI_init_0 : decode b_SI_init 0 = .ok (.aload_n 0, 1) := by decide +kernel
theorem d_SI_init_1 : decode b_SI_init 1 = .ok (.invokespecial 3, 3) := by decide +kernel
theorem d_SI_init_4 : decode b_SI_init 4 = .ok (.aload_n 0, 1) := by decide +kernel
theorem d_SI_init_5 : decode b_SI_init 5 = .ok (.new 9, 3) := by decide +kernel
theorem d_SI_init_8 : decode b_SI_init 8 = .ok (.dup, 1) := by decide +kernel
theorem d_SI_init_9 : decode b_SI_init 9 = .ok (.sipush 16384, 3) := by decide +kernel
theorem d_SI_init_12 : decode b_SI_init 12 = .ok (.invokespecial 11, 3) := by decide +kernel
theorem d_SI_init_15 : decode b_SI_init 15 = .ok (.putfield 14, 3) := by decide +kernel
theorem d_SI_init_18 : decode b_SI_init 18 = .ok (.aload_n 0, 1) := by decide +kernel
theorem d_SI_init_19 : decode b_SI_init 19 = .ok (.new 9, 3) := by decide +kernel
theorem d_SI_init_22 : decode b_SI_init 22 = .ok (.dup, 1) := by decide +kernel
theorem d_SI_init_23 : decode b_SI_init 23 = .ok (.sipush 16384, 3) := by decide +kernel
theorem d_SI_init_26 : decode b_SI_init 26 = .ok (.invokespecial 11, 3) := by decide +kernel
theorem d_SI_init_29 : decode b_SI_init 29 = .ok (.putfield 18, 3) := by decide +kernel
theorem d_SI_init_32 : decode b_SI_init 32 = .ok (.aload_n 0, 1) := by decide +kernel
theorem d_SI_init_33 : decode b_SI_init 33 = .ok (.new 21, 3) := by decide +kernel
theorem d_SI_init_36 : decode b_SI_init 36 = .ok (.dup, 1) := by decide +kernel
theorem d_SI_init_37 : decode b_SI_init 37 = .ok (.invokespecial 23, 3) := by decide +kernel
theorem d_SI_init_40 : decode b_SI_init 40 = .ok (.putfield 24, 3) := by decide +kernel
theorem d_SI_init_43 : decode b_SI_init 43 = .ok (.aload_n 0, 1) := by decide +kernel
theorem d_SI_init_44 : decode b_SI_init 44 = .ok (.new 28, 3) := by decide +kernel
theorem d_SI_init_47 : decode b_SI_init 47 = .ok (.dup, 1) := by decide +kernel
theorem d_SI_init_48 : decode b_SI_init 48 = .ok (.aload_n 0, 1) := by decide +kernel
theorem d_SI_init_49 : decode b_SI_init 49 = .ok (.getfield 24, 3) := by decide +kernel
theorem d_SI_init_52 : decode b_SI_init 52 = .ok (.invokespecial 30, 3) := by decide +kernel
theorem d_SI_init_55 : decode b_SI_init 55 = .ok (.putfield 33, 3) := by decide +kernel
theorem d_SI_init_58 : decode b_SI_init 58 = .ok (.aload_n 0, 1) := by decide +kernel
theorem d_SI_init_59 : decode b_SI_init 59 = .ok (.new 37, 3) := by decide +kernel
theorem d_SI_init_62 : decode b_SI_init 62 = .ok (.dup, 1) := by decide +kernel
theorem d_SI_init_63 : decode b_SI_init 63 = .ok (.aload_n 0, 1) := by decide +kernel
theorem d_SI_init_64 : decode b_SI_init 64 = .ok (.getfield 24, 3) := by decide +kernel
theorem d_SI_init_67 : decode b_SI_init 67 = .ok (.aload_n 0, 1) := by decide +kernel
theorem d_SI_init_68 : decode b_SI_init 68 = .ok (.getfield 33, 3) := by decide +kernel
theorem d_SI_init_71 : decode b_SI_init 71 = .ok (.invokespecial 39, 3) := by decide +kernel
theorem d_SI_init_74 : decode b_SI_init 74 = .ok (.putfield 42, 3) := by decide +kernel
theorem d_SI_init_77 : decode b_SI_init 77 = .ok (.aload_n 0, 1) := by decide +kernel
theorem d_SI_init_78 : decode b_SI_init 78 = .ok (.new 46, 3) := by decide +kernel
theorem d_SI_init_81 : decode b_SI_init 81 = .ok (.dup, 1) := by decide +kernel
theorem d_SI_init_82 : decode b_SI_init 82 = .ok (.aload_n 0, 1) := by decide +kernel
theorem d_SI_init_83 : decode b_SI_init 83 = .ok (.getfield 24, 3) := by decide +kernel
theorem d_SI_init_86 : decode b_SI_init 86 = .ok (.aload_n 0, 1) := by decide +kernel
theorem d_SI_init_87 : decode b_SI_init 87 = .ok (.getfield 33, 3) := by decide +kernel
theorem d_SI_init_90 : decode b_SI_init 90 = .ok (.invokespecial 48, 3) := by decide +kernel
theorem d_SI_init_93 : decode b_SI_init 93 = .ok (.putfield 49, 3) := by decide +kernel
theorem d_SI_init_96 : decode b_SI_init 96 = .ok (.aload_n 0, 1) := by decide +kernel
theorem d_SI_init_97 : decode b_SI_init 97 = .ok (.new 53, 3) := by decide +kernel
theorem d_SI_init_100 : decode b_SI_init 100 = .ok (.dup, 1) := by decide +kernel
theorem d_SI_init_101 : decode b_SI_init 101 = .ok (.aload_n 0, 1) := by decide +kernel
theorem d_SI_init_102 : decode b_SI_init 102 = .ok (.getfield 24, 3) := by decide +kernel
theorem d_SI_init_105 : decode b_SI_init 105 = .ok (.aload_n 0, 1) := by decide +kernel
theorem d_SI_init_106 : decode b_SI_init 106 = .ok (.getfield 33, 3) := by decide +kernel
theorem d_SI_init_109 : decode b_SI_init 109 = .ok (.invokespecial 55, 3) := by decide +kernel
theorem d_SI_init_112 : decode b_SI_init 112 = .ok (.putfield 56, 3) := by decide +kernel
theorem d_SI_init_115 : decode b_SI_init 115 = .ok (.return_, 1) := by decide +kernel
theorem d_MD_init_0 : decode b_MD_init 0 = .ok (.aload_n 0, 1) := by decide +kernel
theorem d_MD_init_1 : decode b_MD_init 1 = .ok (.invokespecial 1, 3) := by decide +kernel
theorem d_MD_init_4 : decode b_MD_init 4 = .ok (.aload_n 0, 1) := by decide +kernel
theorem d_MD_init_5 : decode b_MD_init 5 = .ok (.iconst 0, 1) := by decide +kernel
theorem d_MD_init_6 : decode b_MD_init 6 = .ok (.putfield 7, 3) := by decide +kernel
theorem d_MD_init_9 : decode b_MD_init 9 = .ok (.aload_n 0, 1) := by decide +kernel
theorem d_MD_init_10 : decode b_MD_init 10 = .ok (.sipush 16384, 3) := by decide +kernel
theorem d_MD_init_13 : decode b_MD_init 13 = .ok (.newarray .byte, 2) := by decide +kernel
theorem d_MD_init_15 : decode b_MD_init 15 = .ok (.putfield 13, 3) := by decide +kernel
theorem d_MD_init_18 : decode b_MD_init 18 = .ok (.aload_n 0, 1) := by decide +kernel
theorem d_MD_init_19 : decode b_MD_init 19 = .ok (.sipush 16384, 3) := by decide +kernel
theorem d_MD_init_22 : decode b_MD_init 22 = .ok (.newarray .byte, 2) := by decide +kernel
theorem d_MD_init_24 : decode b_MD_init 24 = .ok (.putfield 17, 3) := by decide +kernel
theorem d_MD_init_27 : decode b_MD_init 27 = .ok (.aload_n 0, 1) := by decide +kernel
theorem d_MD_init_28 : decode b_MD_init 28 = .ok (.sipush 16384, 3) := by decide +kernel
theorem d_MD_init_31 : decode b_MD_init 31 = .ok (.newarray .byte, 2) := by decide +kernel
theorem d_MD_init_33 : decode b_MD_init 33 = .ok (.putfield 20, 3) := by decide +kernel
theorem d_MD_init_36 : decode b_MD_init 36 = .ok (.aload_n 0, 1) := by decide +kernel
theorem d_MD_init_37 : decode b_MD_init 37 = .ok (.sipush 200, 3) := by decide +kernel
theorem d_MD_init_40 : decode b_MD_init 40 = .ok (.newarray .byte, 2) := by decide +kernel
theorem d_MD_init_42 : decode b_MD_init 42 = .ok (.putfield 23, 3) := by decide +kernel
theorem d_MD_init_45 : decode b_MD_init 45 = .ok (.aload_n 0, 1) := by decide +kernel
theorem d_MD_init_46 : decode b_MD_init 46 = .ok (.iconst 0, 1) := by decide +kernel
theorem d_MD_init_47 : decode b_MD_init 47 = .ok (.putfield 26, 3) := by decide +kernel
theorem d_MD_init_50 : decode b_MD_init 50 = .ok (.aload_n 0, 1) := by decide +kernel
theorem d_MD_init_51 : decode b_MD_init 51 = .ok (.iconst 0, 1) := by decide +kernel
theorem d_MD_init_52 : decode b_MD_init 52 = .ok (.putfield 29, 3) := by decide +kernel
theorem d_MD_init_55 : decode b_MD_init 55 = .ok (.aload_n 0, 1) := by decide +kernel
theorem d_MD_init_56 : decode b_MD_init 56 = .ok (.iconst 0, 1) := by decide +kernel
theorem d_MD_init_57 : decode b_MD_init 57 = .ok (.putfield 32, 3) := by decide +kernel
theorem d_MD_init_60 : decode b_MD_init 60 = .ok (.aload_n 0, 1) := by decide +kernel
theorem d_MD_init_61 : decode b_MD_init 61 = .ok (.iconst 0, 1) := by decide +kernel
theorem d_MD_init_62 : decode b_MD_init 62 = .ok (.putfield 35, 3) := by decide +kernel
theorem d_MD_init_65 : decode b_MD_init 65 = .ok (.aload_n 0, 1) := by decide +kernel
theorem d_MD_init_66 : decode b_MD_init 66 = .ok (.iconst 0, 1) := by decide +kernel
theorem d_MD_init_67 : decode b_MD_init 67 = .ok (.putfield 38, 3) := by decide +kernel
theorem d_MD_init_70 : decode b_MD_init 70 = .ok (.aload_n 0, 1) := by decide +kernel
theorem d_MD_init_71 : decode b_MD_init 71 = .ok (.iconst 0, 1) := by decide +kernel
theorem d_MD_init_72 : decode b_MD_init 72 = .ok (.putfield 41, 3) := by decide +kernel
theorem d_MD_init_75 : decode b_MD_init 75 = .ok (.aload_n 0, 1) := by decide +kernel
theorem d_MD_init_76 : decode b_MD_init 76 = .ok (.iconst 0, 1) := by decide +kernel
theorem d_MD_init_77 : decode b_MD_init 77 = .ok (.putfield 44, 3) := by decide +kernel
theorem d_MD_init_80 : decode b_MD_init 80 = .ok (.aload_n 0, 1) := by decide +kernel
theorem d_MD_init_81 : decode b_MD_init 81 = .ok (.bipush 66, 2) := by decide +kernel
theorem d_MD_init_83 : decode b_MD_init 83 = .ok (.newarray .int, 2) := by decide +kernel
theorem d_MD_init_85 : decode b_MD_init 85 = .ok (.putfield 47, 3) := by decide +kernel
theorem d_MD_init_88 : decode b_MD_init 88 = .ok (.aload_n 0, 1) := by decide +kernel
theorem d_MD_init_89 : decode b_MD_init 89 = .ok (.sipush 16384, 3) := by decide +kernel
theorem d_MD_init_92 : decode b_MD_init 92 = .ok (.newarray .int, 2) := by decide +kernel
theorem d_MD_init_94 : decode b_MD_init 94 = .ok (.putfield 51, 3) := by decide +kernel
theorem d_MD_init_97 : decode b_MD_init 97 = .ok (.aload_n 0, 1) := by decide +kernel
theorem d_MD_init_98 : decode b_MD_init 98 = .ok (.sipush 16384, 3) := by decide +kernel
theorem d_MD_init_101 : decode b_MD_init 101 = .ok (.newarray .int, 2) := by decide +kernel
theorem d_MD_init_103 : decode b_MD_init 103 = .ok (.putfield 54, 3) := by decide +kernel
theorem d_MD_init_106 : decode b_MD_init 106 = .ok (.aload_n 0, 1) := by decide +kernel
theorem d_MD_init_107 : decode b_MD_init 107 = .ok (.sipush 16384, 3) := by decide +kernel
theorem d_MD_init_110 : decode b_MD_init 110 = .ok (.newarray .int, 2) := by decide +kernel
theorem d_MD_init_112 : decode b_MD_init 112 = .ok (.putfield 57, 3) := by decide +kernel
theorem d_MD_init_115 : decode b_MD_init 115 = .ok (.aload_n 0, 1) := by decide +kernel
theorem d_MD_init_116 : decode b_MD_init 116 = .ok (.sipush 16385, 3) := by decide +kernel
theorem d_MD_init_119 : decode b_MD_init 119 = .ok (.newarray .int, 2) := by decide +kernel
theorem d_MD_init_121 : decode b_MD_init 121 = .ok (.putfield 60, 3) := by decide +kernel
theorem d_MD_init_124 : decode b_MD_init 124 = .ok (.aload_n 0, 1) := by decide +kernel
theorem d_MD_init_125 : decode b_MD_init 125 = .ok (.sipush 16384, 3) := by decide +kernel
theorem d_MD_init_128 : decode b_MD_init 128 = .ok (.newarray .int, 2) := by decide +kernel
theorem d_MD_init_130 : decode b_MD_init 130 = .ok (.putfield 63, 3) := by decide +kernel
theorem d_MD_init_133 : decode b_MD_init 133 = .ok (.aload_n 0, 1) := by decide +kernel
theorem d_MD_init_134 : decode b_MD_init 134 = .ok (.sipush 16384, 3) := by decide +kernel
theorem d_MD_init_137 : decode b_MD_init 137 = .ok (.newarray .int, 2) := by decide +kernel
theorem d_MD_init_139 : decode b_MD_init 139 = .ok (.putfield 66, 3) := by decide +kernel
theorem d_MD_init_142 : decode b_MD_init 142 = .ok (.aload_n 0, 1) := by decide +kernel
theorem d_MD_init_143 : decode b_MD_init 143 = .ok (.bipush 64, 2) := by decide +kernel
theorem d_MD_init_145 : decode b_MD_init 145 = .ok (.newarray .int, 2) := by decide +kernel
theorem d_MD_init_147 : decode b_MD_init 147 = .ok (.putfield 69, 3) := by decide +kernel
theorem d_MD_init_150 : decode b_MD_init 150 = .ok (.aload_n 0, 1) := by decide +kernel
theorem d_MD_init_151 : decode b_MD_init 151 = .ok (.bipush 64, 2) := by decide +kernel
theorem d_MD_init_153 : decode b_MD_init 153 = .ok (.newarray .boolean, 2) := by decide +kernel
theorem d_MD_init_155 : decode b_MD_init 155 = .ok (.putfield 72, 3) := by decide +kernel
theorem d_MD_init_158 : decode b_MD_init 158 = .ok (.aload_n 0, 1) := by decide +kernel
theorem d_MD_init_159 : decode b_MD_init 159 = .ok (.iconst 0, 1) := by decide +kernel
theorem d_MD_init_160 : decode b_MD_init 160 = .ok (.putfield 76, 3) := by decide +kernel
theorem d_MD_init_163 : decode b_MD_init 163 = .ok (.return_, 1) := by decide +kernel
set_option maxHeartbeats 4000000 in
set_option maxRecDepth 100000 in
theorem c_BR_init (l : Launch) (dC : Nat → ClassId) (dI : Nat → Nat → Nat) (cI cJ cB cZ : ClassId) (h_t : Nat) (sz : Nat) (n : Nat) (hn : n ≤ 16384) : Met l y_BR_init (Cond.code y_BR_init b_BR_init 2 none :: WT) (rm_BR_init n) (cPre (dC, dI) classes (TYS cI cJ cB cZ) [(h_t, .inr (0, [.null, .int 0]))] sz [.ref h_t, .int (nI n)]) (va_Qv (fun _ : Nat => True) (fun u t => cAft (dC, dI) classes (TYS cI cJ cB cZ) (va_A [(h_t, .inr (0, [.null, .int 0]))] sz) [(h_t, .inr (0, [.ref u, .int 0])), (u, .inl (cI, n, .inl (fun _ => 0)))] t) (va_A [(h_t, .inr (0, [.null, .int 0]))] sz)) 1 n (va_A [(h_t, .inr (0, [.null, .int 0]))] sz) := by
  refine Met.ofW (cc := b_BR_init) (maxL := 2) (ret := none) (by decide) rfl ?_
  intro p e s m args below meth c s₁ B hml hq
  obtain ⟨rfl, hsz, hP, hK, hD0⟩ := hq
  have hts := atoms_spec (ws := Cond.code y_BR_init b_BR_init 2 none :: WT) B.pre
  have hw : ∀ w ∈ WT, w.before ([.ref h_t, .int (nI n)] : List Value).toArray s = true := fun w h => hts w (List.mem_cons_of_mem _ h)
  have hx := B.exec
  have hb := B.bytes
  have hr := B.returns
  have hlk := B.notSynchronized
  have hin : meth.name = "<init>" := (name_of_methodNamed B.named B.method).1
  have hown : s.vm.findClass "SuffixIndex$ByteRow" = some m.cls := findClass_of_methodNamed B.named
  have F : CallFix p m c b_BR_init 2 s ([.ref h_t, .int (nI n)] : List Value).toArray WT "SuffixIndex$ByteRow" := ⟨hx, hb, hml, hown, hw⟩
  subst hsz
  have hD := hD0.self (sz := s.heap.size)
  generalize hAe : va_A [(h_t, .inr (0, [.null, .int 0]))] s.heap.size = A at hD ⊢
  have hA : ∀ q : Nat, s.heap.size ≤ q → A q := fun q h => by rw [← hAe]; exact Or.inr h
  have hS : va_S A s.heap s.heap [] := va_S.rf
  have hl := lv_entry ([.ref h_t, .int (nI n)]) (n := 2) (Nat.le_of_ble_eq_true rfl)
  rw [lg_entry_eq]
  generalize (lg_sl ([.ref h_t, .int (nI n)]) ++ List.replicate (2 - (lg_sl ([.ref h_t, .int (nI n)])).length) Slot.unset).toArray = ls at hl ⊢
  have hl : lv_has ls 2 [(0, .ref h_t), (1, .int (nI n))] := hl
  show W p l e (rm_BR_init n) s m _ below meth c s.heap [] 0 0 _ _
  have hP : va_P (dC, dI) classes [(h_t, .inr (0, [.null, .int 0]))] s.heap := hP
  obtain ⟨H, hHe⟩ : ∃ H, H = s.heap := ⟨_, rfl⟩
  have hS : va_S A s.heap H [] := by rw [hHe]; exact hS
  rw [← hHe] at hP
  suffices hgoal : W p l e (rm_BR_init n) s m ([.ref h_t, .int (nI n)] : List Value).toArray below meth c H [] 0 0 (MQ below (va_Qv (fun _ : Nat => True) (fun u t => cAft (dC, dI) classes (TYS cI cJ cB cZ) A [(h_t, .inr (0, [.ref u, .int 0])), (u, .inl (cI, n, .inl (fun _ => 0)))] t) A) ([.ref h_t, .int (nI n)] : List Value).toArray s 1 n A) (F0 m 0 ls []) by rw [hHe] at hgoal; exact hgoal
  refine lv_aload_n hx hb d_BR_init_0 rfl (lv_at hl 0 rfl) ?_
  refine W.objInit hx hb hown (hw _ m_42) (hw _ m_35) (hw _ m_36) rfl (by rw [hml]; exact hl.1) rfl d_BR_init_1 (Nat.le_of_ble_eq_true rfl) (Nat.le_of_ble_eq_true rfl) ?_
  refine W.eq (g2 := F0 m 4 ls []) rfl ?_
  refine lv_aload_n hx hb d_BR_init_4 rfl (lv_at hl 0 rfl) ?_
  refine lv_iload_n hx hb d_BR_init_5 rfl (lv_at hl 1 rfl) ?_
  refine nw_a (atype := .int) (ty := .int) (a0 := (n, .inl (fun _ => 0))) hx hb (hw _ m_58) rfl hK hP hD hS hA 0 rfl (fun _ h => h) (fun _ => rfl) (nI_pos (by omega)) (nI_clamp (by omega)) (by show n * 4 ≤ 536870912; omega) (by show 0 + 1 ≤ 1; omega) (by show 0 + n ≤ n; omega) d_BR_init_6 (fun q6 H hP hD hS => ?_)
  have hP : va_P (dC, dI) classes [(h_t, .inr (0, [.null, .int 0])), (q6, .inl (cI, n, .inl (fun _ => 0)))] H := hP
  have hD : va_D A [(h_t, .inr (0, [.null, .int 0])), (q6, .inl (cI, n, .inl (fun _ => 0)))] := hD
  refine W.widen (k := 1) (n := n) (by omega) (by omega) ?_
  refine va_putF (D := (dC, dI)) (ci := 0) (v := .ref q6) (ty := .array .int) (C := "SuffixIndex$ByteRow") (T := F_BR) (N := 2) hx hb hw i_BR t_BR t_BR_ok n_BR hown hK hP hD hS 0 rfl rfl 0 (by decide) (hw _ m_43) (fun _ h9 => h9) rfl hin rfl (by decide +kernel) rfl rfl (Nat.le_of_ble_eq_true rfl) d_BR_init_8 (fun H locs hP hD hS => ?_)
  have hP : va_P (dC, dI) classes [(h_t, .inr (0, [.ref q6, .int 0])), (q6, .inl (cI, n, .inl (fun _ => 0)))] H := hP
  have hD : va_D A [(h_t, .inr (0, [.ref q6, .int 0])), (q6, .inl (cI, n, .inl (fun _ => 0)))] := hD
  have hP9 : va_P (dC, dI) classes [(h_t, .inr (0, [.ref q6, .int 0])), (q6, .inl (cI, n, .inl (fun _ => 0)))] H := P_sub hP [0, 1] rfl
  have hD9 : va_D A [(h_t, .inr (0, [.ref q6, .int 0])), (q6, .inl (cI, n, .inl (fun _ => 0)))] := hD.sub [0, 1] rfl rfl
  exact W.vret hx hb hr (fun t ht hW => ⟨⟨q6, rfl, trivial, by rw [ht]; exact hP9, va_K.moved hW.alike hK, hD9⟩, hS.F ht⟩) hS.2.2 d_BR_init_11
set_option maxHeartbeats 4000000 in
set_option maxRecDepth 100000 in
theorem c_LB_init (l : Launch) (dC : Nat → ClassId) (dI : Nat → Nat → Nat) (cI cJ cB cZ : ClassId) (h_t : Nat) (sz : Nat) : Met l y_LB_init (Cond.code y_LB_init b_LB_init 1 none :: WT) rm_LB_init (cPre (dC, dI) classes (TYS cI cJ cB cZ) [(h_t, .inr (1, [.null, .null, .null, .int 0, .int 0]))] sz [.ref h_t]) (va_Qv (fun _ : Nat × Nat × Nat => True) (fun u t => cAft (dC, dI) classes (TYS cI cJ cB cZ) (va_A [(h_t, .inr (1, [.null, .null, .null, .int 0, .int 0]))] sz) [(h_t, .inr (1, [.ref u.1, .ref u.2.1, .ref u.2.2, .int 0, .int 0])), (u.1, .inl (cI, 16448, .inl (fun _ => 0))), (u.2.1, .inl (cI, 16448, .inl (fun _ => 0))), (u.2.2, .inl (cI, 65, .inl (fun _ => 0)))] t) (va_A [(h_t, .inr (1, [.null, .null, .null, .int 0, .int 0]))] sz)) 3 32961 (va_A [(h_t, .inr (1, [.null, .null, .null, .int 0, .int 0]))] sz) := by
  refine Met.ofW (cc := b_LB_init) (maxL := 1) (ret := none) (by decide) rfl ?_
  intro p e s m args below meth c s₁ B hml hq
  obtain ⟨rfl, hsz, hP, hK, hD0⟩ := hq
  have hts := atoms_spec (ws := Cond.code y_LB_init b_LB_init 1 none :: WT) B.pre
  have hw : ∀ w ∈ WT, w.before ([.ref h_t] : List Value).toArray s = true := fun w h => hts w (List.mem_cons_of_mem _ h)
  have hx := B.exec
  have hb := B.bytes
  have hr := B.returns
  have hlk := B.notSynchronized
  have hin : meth.name = "<init>" := (name_of_methodNamed B.named B.method).1
  have hown : s.vm.findClass "SuffixIndex$Library" = some m.cls := findClass_of_methodNamed B.named
  have F : CallFix p m c b_LB_init 1 s ([.ref h_t] : List Value).toArray WT "SuffixIndex$Library" := ⟨hx, hb, hml, hown, hw⟩
  subst hsz
  have hD := hD0.self (sz := s.heap.size)
  generalize hAe : va_A [(h_t, .inr (1, [.null, .null, .null, .int 0, .int 0]))] s.heap.size = A at hD ⊢
  have hA : ∀ q : Nat, s.heap.size ≤ q → A q := fun q h => by rw [← hAe]; exact Or.inr h
  have hS : va_S A s.heap s.heap [] := va_S.rf
  have hl := lv_entry ([.ref h_t]) (n := 1) (Nat.le_of_ble_eq_true rfl)
  rw [lg_entry_eq]
  generalize (lg_sl ([.ref h_t]) ++ List.replicate (1 - (lg_sl ([.ref h_t])).length) Slot.unset).toArray = ls at hl ⊢
  have hl : lv_has ls 1 [(0, .ref h_t)] := hl
  show W p l e rm_LB_init s m _ below meth c s.heap [] 0 0 _ _
  have hP : va_P (dC, dI) classes [(h_t, .inr (1, [.null, .null, .null, .int 0, .int 0]))] s.heap := hP
  obtain ⟨H, hHe⟩ : ∃ H, H = s.heap := ⟨_, rfl⟩
  have hS : va_S A s.heap H [] := by rw [hHe]; exact hS
  rw [← hHe] at hP
  suffices hgoal : W p l e rm_LB_init s m ([.ref h_t] : List Value).toArray below meth c H [] 0 0 (MQ below (va_Qv (fun _ : Nat × Nat × Nat => True) (fun u t => cAft (dC, dI) classes (TYS cI cJ cB cZ) A [(h_t, .inr (1, [.ref u.1, .ref u.2.1, .ref u.2.2, .int 0, .int 0])), (u.1, .inl (cI, 16448, .inl (fun _ => 0))), (u.2.1, .inl (cI, 16448, .inl (fun _ => 0))), (u.2.2, .inl (cI, 65, .inl (fun _ => 0)))] t) A) ([.ref h_t] : List Value).toArray s 3 32961 A) (F0 m 0 ls []) by rw [hHe] at hgoal; exact hgoal
  refine lv_aload_n hx hb d_LB_init_0 rfl (lv_at hl 0 rfl) ?_
  refine W.objInit hx hb hown (hw _ m_64) (hw _ m_35) (hw _ m_36) rfl (by rw [hml]; exact hl.1) rfl d_LB_init_1 (Nat.le_of_ble_eq_true rfl) (Nat.le_of_ble_eq_true rfl) ?_
  refine W.eq (g2 := F0 m 4 ls []) rfl ?_
  refine lv_aload_n hx hb d_LB_init_4 rfl (lv_at hl 0 rfl) ?_
  refine lv_sipush (v := nI 16448) hx hb d_LB_init_5 (by decide) ?_
  refine nw_a (atype := .int) (ty := .int) (a0 := (16448, .inl (fun _ => 0))) hx hb (hw _ m_58) rfl hK hP hD hS hA 0 rfl (fun _ h => h) (fun _ => rfl) (nI_pos (by decide)) (nI_clamp (by decide)) (by decide) (by decide) (by decide) d_LB_init_8 (fun q8 H hP hD hS => ?_)
  have hP : va_P (dC, dI) classes [(h_t, .inr (1, [.null, .null, .null, .int 0, .int 0])), (q8, .inl (cI, 16448, .inl (fun _ => 0)))] H := hP
  have hD : va_D A [(h_t, .inr (1, [.null, .null, .null, .int 0, .int 0])), (q8, .inl (cI, 16448, .inl (fun _ => 0)))] := hD
  refine W.widen (k := 1) (n := 16448) (by omega) (by omega) ?_
  refine va_putF (D := (dC, dI)) (ci := 1) (v := .ref q8) (ty := .array .int) (C := "SuffixIndex$Library") (T := F_LB) (N := 5) hx hb hw i_LB t_LB t_LB_ok n_LB hown hK hP hD hS 0 rfl rfl 0 (by decide) (hw _ m_65) (fun _ h9 => h9) rfl hin rfl (by decide +kernel) rfl rfl (Nat.le_of_ble_eq_true rfl) d_LB_init_10 (fun H locs hP hD hS => ?_)
  have hP : va_P (dC, dI) classes [(h_t, .inr (1, [.ref q8, .null, .null, .int 0, .int 0])), (q8, .inl (cI, 16448, .inl (fun _ => 0)))] H := hP
  have hD : va_D A [(h_t, .inr (1, [.ref q8, .null, .null, .int 0, .int 0])), (q8, .inl (cI, 16448, .inl (fun _ => 0)))] := hD
  refine lv_aload_n hx hb d_LB_init_13 rfl (lv_at hl 0 rfl) ?_
  refine lv_sipush (v := nI 16448) hx hb d_LB_init_14 (by decide) ?_
  refine nw_a (atype := .int) (ty := .int) (a0 := (16448, .inl (fun _ => 0))) hx hb (hw _ m_58) rfl hK hP hD hS hA 0 rfl (fun _ h => h) (fun _ => rfl) (nI_pos (by decide)) (nI_clamp (by decide)) (by decide) (by decide) (by decide) d_LB_init_17 (fun q17 H hP hD hS => ?_)
  have hP : va_P (dC, dI) classes [(h_t, .inr (1, [.ref q8, .null, .null, .int 0, .int 0])), (q8, .inl (cI, 16448, .inl (fun _ => 0))), (q17, .inl (cI, 16448, .inl (fun _ => 0)))] H := hP
  have hD : va_D A [(h_t, .inr (1, [.ref q8, .null, .null, .int 0, .int 0])), (q8, .inl (cI, 16448, .inl (fun _ => 0))), (q17, .inl (cI, 16448, .inl (fun _ => 0)))] := hD
  refine W.widen (k := 2) (n := 32896) (by omega) (by omega) ?_
  refine va_putF (D := (dC, dI)) (ci := 1) (v := .ref q17) (ty := .array .int) (C := "SuffixIndex$Library") (T := F_LB) (N := 5) hx hb hw i_LB t_LB t_LB_ok n_LB hown hK hP hD hS 0 rfl rfl 1 (by decide) (hw _ m_69) (fun _ h9 => h9) rfl hin rfl (by decide +kernel) rfl rfl (Nat.le_of_ble_eq_true rfl) d_LB_init_19 (fun H locs hP hD hS => ?_)
  have hP : va_P (dC, dI) classes [(h_t, .inr (1, [.ref q8, .ref q17, .null, .int 0, .int 0])), (q8, .inl (cI, 16448, .inl (fun _ => 0))), (q17, .inl (cI, 16448, .inl (fun _ => 0)))] H := hP
  have hD : va_D A [(h_t, .inr (1, [.ref q8, .ref q17, .null, .int 0, .int 0])), (q8, .inl (cI, 16448, .inl (fun _ => 0))), (q17, .inl (cI, 16448, .inl (fun _ => 0)))] := hD
  refine lv_aload_n hx hb d_LB_init_22 rfl (lv_at hl 0 rfl) ?_
  refine lv_bipush (v := nI 65) hx hb d_LB_init_23 (by decide) ?_
  refine nw_a (atype := .int) (ty := .int) (a0 := (65, .inl (fun _ => 0))) hx hb (hw _ m_58) rfl hK hP hD hS hA 0 rfl (fun _ h => h) (fun _ => rfl) (nI_pos (by decide)) (nI_clamp (by decide)) (by decide) (by decide) (by decide) d_LB_init_25 (fun q25 H hP hD hS => ?_)
  have hP : va_P (dC, dI) classes [(h_t, .inr (1, [.ref q8, .ref q17, .null, .int 0, .int 0])), (q8, .inl (cI, 16448, .inl (fun _ => 0))), (q17, .inl (cI, 16448, .inl (fun _ => 0))), (q25, .inl (cI, 65, .inl (fun _ => 0)))] H := hP
  have hD : va_D A [(h_t, .inr (1, [.ref q8, .ref q17, .null, .int 0, .int 0])), (q8, .inl (cI, 16448, .inl (fun _ => 0))), (q17, .inl (cI, 16448, .inl (fun _ => 0))), (q25, .inl (cI, 65, .inl (fun _ => 0)))] := hD
  refine W.widen (k := 3) (n := 32961) (by omega) (by omega) ?_
  refine va_putF (D := (dC, dI)) (ci := 1) (v := .ref q25) (ty := .array .int) (C := "SuffixIndex$Library") (T := F_LB) (N := 5) hx hb hw i_LB t_LB t_LB_ok n_LB hown hK hP hD hS 0 rfl rfl 2 (by decide) (hw _ m_71) (fun _ h9 => h9) rfl hin rfl (by decide +kernel) rfl rfl (Nat.le_of_ble_eq_true rfl) d_LB_init_27 (fun H locs hP hD hS => ?_)
  have hP : va_P (dC, dI) classes [(h_t, .inr (1, [.ref q8, .ref q17, .ref q25, .int 0, .int 0])), (q8, .inl (cI, 16448, .inl (fun _ => 0))), (q17, .inl (cI, 16448, .inl (fun _ => 0))), (q25, .inl (cI, 65, .inl (fun _ => 0)))] H := hP
  have hD : va_D A [(h_t, .inr (1, [.ref q8, .ref q17, .ref q25, .int 0, .int 0])), (q8, .inl (cI, 16448, .inl (fun _ => 0))), (q17, .inl (cI, 16448, .inl (fun _ => 0))), (q25, .inl (cI, 65, .inl (fun _ => 0)))] := hD
  have hP9 : va_P (dC, dI) classes [(h_t, .inr (1, [.ref q8, .ref q17, .ref q25, .int 0, .int 0])), (q8, .inl (cI, 16448, .inl (fun _ => 0))), (q17, .inl (cI, 16448, .inl (fun _ => 0))), (q25, .inl (cI, 65, .inl (fun _ => 0)))] H := P_sub hP [0, 1, 2, 3] rfl
  have hD9 : va_D A [(h_t, .inr (1, [.ref q8, .ref q17, .ref q25, .int 0, .int 0])), (q8, .inl (cI, 16448, .inl (fun _ => 0))), (q17, .inl (cI, 16448, .inl (fun _ => 0))), (q25, .inl (cI, 65, .inl (fun _ => 0)))] := hD.sub [0, 1, 2, 3] rfl rfl
  exact W.vret hx hb hr (fun t ht hW => ⟨⟨(q8, q17, q25), rfl, trivial, by rw [ht]; exact hP9, va_K.moved hW.alike hK, hD9⟩, hS.F ht⟩) hS.2.2 d_LB_init_30
set_option maxHeartbeats 4000000 in
set_option maxRecDepth 100000 in
theorem c_SO_init (l : Launch) (dC : Nat → ClassId) (dI : Nat → Nat → Nat) (cI cJ cB cZ : ClassId) (h_t : Nat) (sz : Nat) : Met l y_SO_init (Cond.code y_SO_init b_SO_init 1 none :: WT) rm_SO_init (cPre (dC, dI) classes (TYS cI cJ cB cZ) [(h_t, .inr (2, [.null, .null, .null, .int 0]))] sz [.ref h_t]) (va_Qv (fun _ : Nat × Nat × Nat => True) (fun u t => cAft (dC, dI) classes (TYS cI cJ cB cZ) (va_A [(h_t, .inr (2, [.null, .null, .null, .int 0]))] sz) [(h_t, .inr (2, [.ref u.1, .ref u.2.1, .ref u.2.2, .int 0])), (u.1, .inl (cI, 16448, .inl (fun _ => 0))), (u.2.1, .inl (cI, 16448, .inl (fun _ => 0))), (u.2.2, .inl (cI, 16448, .inl (fun _ => 0)))] t) (va_A [(h_t, .inr (2, [.null, .null, .null, .int 0]))] sz)) 3 49344 (va_A [(h_t, .inr (2, [.null, .null, .null, .int 0]))] sz) := by
  refine Met.ofW (cc := b_SO_init) (maxL := 1) (ret := none) (by decide) rfl ?_
  intro p e s m args below meth c s₁ B hml hq
  obtain ⟨rfl, hsz, hP, hK, hD0⟩ := hq
  have hts := atoms_spec (ws := Cond.code y_SO_init b_SO_init 1 none :: WT) B.pre
  have hw : ∀ w ∈ WT, w.before ([.ref h_t] : List Value).toArray s = true := fun w h => hts w (List.mem_cons_of_mem _ h)
  have hx := B.exec
  have hb := B.bytes
  have hr := B.returns
  have hlk := B.notSynchronized
  have hin : meth.name = "<init>" := (name_of_methodNamed B.named B.method).1
  have hown : s.vm.findClass "SuffixIndex$Sorter" = some m.cls := findClass_of_methodNamed B.named
  have F : CallFix p m c b_SO_init 1 s ([.ref h_t] : List Value).toArray WT "SuffixIndex$Sorter" := ⟨hx, hb, hml, hown, hw⟩
  subst hsz
  have hD := hD0.self (sz := s.heap.size)
  generalize hAe : va_A [(h_t, .inr (2, [.null, .null, .null, .int 0]))] s.heap.size = A at hD ⊢
  have hA : ∀ q : Nat, s.heap.size ≤ q → A q := fun q h => by rw [← hAe]; exact Or.inr h
  have hS : va_S A s.heap s.heap [] := va_S.rf
  have hl := lv_entry ([.ref h_t]) (n := 1) (Nat.le_of_ble_eq_true rfl)
  rw [lg_entry_eq]
  generalize (lg_sl ([.ref h_t]) ++ List.replicate (1 - (lg_sl ([.ref h_t])).length) Slot.unset).toArray = ls at hl ⊢
  have hl : lv_has ls 1 [(0, .ref h_t)] := hl
  show W p l e rm_SO_init s m _ below meth c s.heap [] 0 0 _ _
  have hP : va_P (dC, dI) classes [(h_t, .inr (2, [.null, .null, .null, .int 0]))] s.heap := hP
  obtain ⟨H, hHe⟩ : ∃ H, H = s.heap := ⟨_, rfl⟩
  have hS : va_S A s.heap H [] := by rw [hHe]; exact hS
  rw [← hHe] at hP
  suffices hgoal : W p l e rm_SO_init s m ([.ref h_t] : List Value).toArray below meth c H [] 0 0 (MQ below (va_Qv (fun _ : Nat × Nat × Nat => True) (fun u t => cAft (dC, dI) classes (TYS cI cJ cB cZ) A [(h_t, .inr (2, [.ref u.1, .ref u.2.1, .ref u.2.2, .int 0])), (u.1, .inl (cI, 16448, .inl (fun _ => 0))), (u.2.1, .inl (cI, 16448, .inl (fun _ => 0))), (u.2.2, .inl (cI, 16448, .inl (fun _ => 0)))] t) A) ([.ref h_t] : List Value).toArray s 3 49344 A) (F0 m 0 ls []) by rw [hHe] at hgoal; exact hgoal
  refine lv_aload_n hx hb d_SO_init_0 rfl (lv_at hl 0 rfl) ?_
  refine W.objInit hx hb hown (hw _ m_103) (hw _ m_35) (hw _ m_36) rfl (by rw [hml]; exact hl.1) rfl d_SO_init_1 (Nat.le_of_ble_eq_true rfl) (Nat.le_of_ble_eq_true rfl) ?_
  refine W.eq (g2 := F0 m 4 ls []) rfl ?_
  refine lv_aload_n hx hb d_SO_init_4 rfl (lv_at hl 0 rfl) ?_
  refine lv_sipush (v := nI 16448) hx hb d_SO_init_5 (by decide) ?_
  refine nw_a (atype := .int) (ty := .int) (a0 := (16448, .inl (fun _ => 0))) hx hb (hw _ m_58) rfl hK hP hD hS hA 0 rfl (fun _ h => h) (fun _ => rfl) (nI_pos (by decide)) (nI_clamp (by decide)) (by decide) (by decide) (by decide) d_SO_init_8 (fun q8 H hP hD hS => ?_)
  have hP : va_P (dC, dI) classes [(h_t, .inr (2, [.null, .null, .null, .int 0])), (q8, .inl (cI, 16448, .inl (fun _ => 0)))] H := hP
  have hD : va_D A [(h_t, .inr (2, [.null, .null, .null, .int 0])), (q8, .inl (cI, 16448, .inl (fun _ => 0)))] := hD
  refine W.widen (k := 1) (n := 16448) (by omega) (by omega) ?_
  refine va_putF (D := (dC, dI)) (ci := 2) (v := .ref q8) (ty := .array .int) (C := "SuffixIndex$Sorter") (T := F_SO) (N := 4) hx hb hw i_SO t_SO t_SO_ok n_SO hown hK hP hD hS 0 rfl rfl 0 (by decide) (hw _ m_104) (fun _ h9 => h9) rfl hin rfl (by decide +kernel) rfl rfl (Nat.le_of_ble_eq_true rfl) d_SO_init_10 (fun H locs hP hD hS => ?_)
  have hP : va_P (dC, dI) classes [(h_t, .inr (2, [.ref q8, .null, .null, .int 0])), (q8, .inl (cI, 16448, .inl (fun _ => 0)))] H := hP
  have hD : va_D A [(h_t, .inr (2, [.ref q8, .null, .null, .int 0])), (q8, .inl (cI, 16448, .inl (fun _ => 0)))] := hD
  refine lv_aload_n hx hb d_SO_init_13 rfl (lv_at hl 0 rfl) ?_
  refine lv_sipush (v := nI 16448) hx hb d_SO_init_14 (by decide) ?_
  refine nw_a (atype := .int) (ty := .int) (a0 := (16448, .inl (fun _ => 0))) hx hb (hw _ m_58) rfl hK hP hD hS hA 0 rfl (fun _ h => h) (fun _ => rfl) (nI_pos (by decide)) (nI_clamp (by decide)) (by decide) (by decide) (by decide) d_SO_init_17 (fun q17 H hP hD hS => ?_)
  have hP : va_P (dC, dI) classes [(h_t, .inr (2, [.ref q8, .null, .null, .int 0])), (q8, .inl (cI, 16448, .inl (fun _ => 0))), (q17, .inl (cI, 16448, .inl (fun _ => 0)))] H := hP
  have hD : va_D A [(h_t, .inr (2, [.ref q8, .null, .null, .int 0])), (q8, .inl (cI, 16448, .inl (fun _ => 0))), (q17, .inl (cI, 16448, .inl (fun _ => 0)))] := hD
  refine W.widen (k := 2) (n := 32896) (by omega) (by omega) ?_
  refine va_putF (D := (dC, dI)) (ci := 2) (v := .ref q17) (ty := .array .int) (C := "SuffixIndex$Sorter") (T := F_SO) (N := 4) hx hb hw i_SO t_SO t_SO_ok n_SO hown hK hP hD hS 0 rfl rfl 1 (by decide) (hw _ m_105) (fun _ h9 => h9) rfl hin rfl (by decide +kernel) rfl rfl (Nat.le_of_ble_eq_true rfl) d_SO_init_19 (fun H locs hP hD hS => ?_)
  have hP : va_P (dC, dI) classes [(h_t, .inr (2, [.ref q8, .ref q17, .null, .int 0])), (q8, .inl (cI, 16448, .inl (fun _ => 0))), (q17, .inl (cI, 16448, .inl (fun _ => 0)))] H := hP
  have hD : va_D A [(h_t, .inr (2, [.ref q8, .ref q17, .null, .int 0])), (q8, .inl (cI, 16448, .inl (fun _ => 0))), (q17, .inl (cI, 16448, .inl (fun _ => 0)))] := hD
  refine lv_aload_n hx hb d_SO_init_22 rfl (lv_at hl 0 rfl) ?_
  refine lv_sipush (v := nI 16448) hx hb d_SO_init_23 (by decide) ?_
  refine nw_a (atype := .int) (ty := .int) (a0 := (16448, .inl (fun _ => 0))) hx hb (hw _ m_58) rfl hK hP hD hS hA 0 rfl (fun _ h => h) (fun _ => rfl) (nI_pos (by decide)) (nI_clamp (by decide)) (by decide) (by decide) (by decide) d_SO_init_26 (fun q26 H hP hD hS => ?_)
  have hP : va_P (dC, dI) classes [(h_t, .inr (2, [.ref q8, .ref q17, .null, .int 0])), (q8, .inl (cI, 16448, .inl (fun _ => 0))), (q17, .inl (cI, 16448, .inl (fun _ => 0))), (q26, .inl (cI, 16448, .inl (fun _ => 0)))] H := hP
  have hD : va_D A [(h_t, .inr (2, [.ref q8, .ref q17, .null, .int 0])), (q8, .inl (cI, 16448, .inl (fun _ => 0))), (q17, .inl (cI, 16448, .inl (fun _ => 0))), (q26, .inl (cI, 16448, .inl (fun _ => 0)))] := hD
  refine W.widen (k := 3) (n := 49344) (by omega) (by omega) ?_
  refine va_putF (D := (dC, dI)) (ci := 2) (v := .ref q26) (ty := .array .int) (C := "SuffixIndex$Sorter") (T := F_SO) (N := 4) hx hb hw i_SO t_SO t_SO_ok n_SO hown hK hP hD hS 0 rfl rfl 2 (by decide) (hw _ m_106) (fun _ h9 => h9) rfl hin rfl (by decide +kernel) rfl rfl (Nat.le_of_ble_eq_true rfl) d_SO_init_28 (fun H locs hP hD hS => ?_)
  have hP : va_P (dC, dI) classes [(h_t, .inr (2, [.ref q8, .ref q17, .ref q26, .int 0])), (q8, .inl (cI, 16448, .inl (fun _ => 0))), (q17, .inl (cI, 16448, .inl (fun _ => 0))), (q26, .inl (cI, 16448, .inl (fun _ => 0)))] H := hP
  have hD : va_D A [(h_t, .inr (2, [.ref q8, .ref q17, .ref q26, .int 0])), (q8, .inl (cI, 16448, .inl (fun _ => 0))), (q17, .inl (cI, 16448, .inl (fun _ => 0))), (q26, .inl (cI, 16448, .inl (fun _ => 0)))] := hD
  have hP9 : va_P (dC, dI) classes [(h_t, .inr (2, [.ref q8, .ref q17, .ref q26, .int 0])), (q8, .inl (cI, 16448, .inl (fun _ => 0))), (q17, .inl (cI, 16448, .inl (fun _ => 0))), (q26, .inl (cI, 16448, .inl (fun _ => 0)))] H := P_sub hP [0, 1, 2, 3] rfl
  have hD9 : va_D A [(h_t, .inr (2, [.ref q8, .ref q17, .ref q26, .int 0])), (q8, .inl (cI, 16448, .inl (fun _ => 0))), (q17, .inl (cI, 16448, .inl (fun _ => 0))), (q26, .inl (cI, 16448, .inl (fun _ => 0)))] := hD.sub [0, 1, 2, 3] rfl rfl
  exact W.vret hx hb hr (fun t ht hW => ⟨⟨(q8, q17, q26), rfl, trivial, by rw [ht]; exact hP9, va_K.moved hW.alike hK, hD9⟩, hS.F ht⟩) hS.2.2 d_SO_init_31
set_option maxHeartbeats 4000000 in
set_option maxRecDepth 100000 in
theorem c_OR_init (l : Launch) (dC : Nat → ClassId) (dI : Nat → Nat → Nat) (cI cJ cB cZ : ClassId) (h_t : Nat) (h_p1 : Nat) (sz : Nat) : Met l y_OR_init (Cond.code y_OR_init b_OR_init 2 none :: WT) rm_OR_init (cPreN (dC, dI) classes (TYS cI cJ cB cZ) [(h_t, .inr (3, [.null, .null, .null, .null, .null, .null, .int 0, .int 0, .int 0, .int 0]))] sz [.ref h_t, .ref h_p1]) (va_Qv (fun _ : Nat × Nat × Nat × Nat × Nat × Nat × Nat × Nat => True) (fun u t => cAft (dC, dI) classes (TYS cI cJ cB cZ) (va_A [(h_t, .inr (3, [.null, .null, .null, .null, .null, .null, .int 0, .int 0, .int 0, .int 0]))] sz) [(h_t, .inr (3, [.ref u.1, .ref u.2.1, .ref u.2.2.1, .ref u.2.2.2.1, .ref u.2.2.2.2.1, .ref h_p1, .int 0, .int 0, .int 0, .int 0])), (u.1, .inl (cI, 16448, .inl (fun _ => 0))), (u.2.1, .inl (cI, 16448, .inl (fun _ => 0))), (u.2.2.1, .inl (cI, 16448, .inl (fun _ => 0))), (u.2.2.2.1, .inl (cJ, 16448, .inr (.inl (fun _ => 0)))), (u.2.2.2.2.1, .inr (2, [.ref u.2.2.2.2.2.1, .ref u.2.2.2.2.2.2.1, .ref u.2.2.2.2.2.2.2, .int 0])), (u.2.2.2.2.2.1, .inl (cI, 16448, .inl (fun _ => 0))), (u.2.2.2.2.2.2.1, .inl (cI, 16448, .inl (fun _ => 0))), (u.2.2.2.2.2.2.2, .inl (cI, 16448, .inl (fun _ => 0)))] t) (va_A [(h_t, .inr (3, [.null, .null, .null, .null, .null, .null, .int 0, .int 0, .int 0, .int 0]))] sz)) 8 115140 (va_A [(h_t, .inr (3, [.null, .null, .null, .null, .null, .null, .int 0, .int 0, .int 0, .int 0]))] sz) := by
  refine Met.ofW (cc := b_OR_init) (maxL := 2) (ret := none) (by decide) rfl ?_
  intro p e s m args below meth c s₁ B hml hq
  obtain ⟨rfl, hsz, hP, hK, hD0, hN⟩ := hq
  have hts := atoms_spec (ws := Cond.code y_OR_init b_OR_init 2 none :: WT) B.pre
  have hw : ∀ w ∈ WT, w.before ([.ref h_t, .ref h_p1] : List Value).toArray s = true := fun w h => hts w (List.mem_cons_of_mem _ h)
  have hx := B.exec
  have hb := B.bytes
  have hr := B.returns
  have hlk := B.notSynchronized
  have hin : meth.name = "<init>" := (name_of_methodNamed B.named B.method).1
  have hown : s.vm.findClass "SuffixIndex$SuffixOrder" = some m.cls := findClass_of_methodNamed B.named
  have F : CallFix p m c b_OR_init 2 s ([.ref h_t, .ref h_p1] : List Value).toArray WT "SuffixIndex$SuffixOrder" := ⟨hx, hb, hml, hown, hw⟩
  subst hsz
  have hD := hD0.self (sz := s.heap.size)
  generalize hAe : va_A [(h_t, .inr (3, [.null, .null, .null, .null, .null, .null, .int 0, .int 0, .int 0, .int 0]))] s.heap.size = A at hD ⊢
  have hA : ∀ q : Nat, s.heap.size ≤ q → A q := fun q h => by rw [← hAe]; exact Or.inr h
  have hS : va_S A s.heap s.heap [] := va_S.rf
  have hl := lv_entry ([.ref h_t, .ref h_p1]) (n := 2) (Nat.le_of_ble_eq_true rfl)
  rw [lg_entry_eq]
  generalize (lg_sl ([.ref h_t, .ref h_p1]) ++ List.replicate (2 - (lg_sl ([.ref h_t, .ref h_p1])).length) Slot.unset).toArray = ls at hl ⊢
  have hl : lv_has ls 2 [(0, .ref h_t), (1, .ref h_p1)] := hl
  show W p l e rm_OR_init s m _ below meth c s.heap [] 0 0 _ _
  have hP : va_P (dC, dI) classes [(h_t, .inr (3, [.null, .null, .null, .null, .null, .null, .int 0, .int 0, .int 0, .int 0]))] s.heap := hP
  obtain ⟨H, hHe⟩ : ∃ H, H = s.heap := ⟨_, rfl⟩
  have hS : va_S A s.heap H [] := by rw [hHe]; exact hS
  rw [← hHe] at hP
  suffices hgoal : W p l e rm_OR_init s m ([.ref h_t, .ref h_p1] : List Value).toArray below meth c H [] 0 0 (MQ below (va_Qv (fun _ : Nat × Nat × Nat × Nat × Nat × Nat × Nat × Nat => True) (fun u t => cAft (dC, dI) classes (TYS cI cJ cB cZ) A [(h_t, .inr (3, [.ref u.1, .ref u.2.1, .ref u.2.2.1, .ref u.2.2.2.1, .ref u.2.2.2.2.1, .ref h_p1, .int 0, .int 0, .int 0, .int 0])), (u.1, .inl (cI, 16448, .inl (fun _ => 0))), (u.2.1, .inl (cI, 16448, .inl (fun _ => 0))), (u.2.2.1, .inl (cI, 16448, .inl (fun _ => 0))), (u.2.2.2.1, .inl (cJ, 16448, .inr (.inl (fun _ => 0)))), (u.2.2.2.2.1, .inr (2, [.ref u.2.2.2.2.2.1, .ref u.2.2.2.2.2.2.1, .ref u.2.2.2.2.2.2.2, .int 0])), (u.2.2.2.2.2.1, .inl (cI, 16448, .inl (fun _ => 0))), (u.2.2.2.2.2.2.1, .inl (cI, 16448, .inl (fun _ => 0))), (u.2.2.2.2.2.2.2, .inl (cI, 16448, .inl (fun _ => 0)))] t) A) ([.ref h_t, .ref h_p1] : List Value).toArray s 8 115140 A) (F0 m 0 ls []) by rw [hHe] at hgoal; exact hgoal
  refine lv_aload_n hx hb d_OR_init_0 rfl (lv_at hl 0 rfl) ?_
  refine W.objInit hx hb hown (hw _ m_97) (hw _ m_35) (hw _ m_36) rfl (by rw [hml]; exact hl.1) rfl d_OR_init_1 (Nat.le_of_ble_eq_true rfl) (Nat.le_of_ble_eq_true rfl) ?_
  refine W.eq (g2 := F0 m 4 ls []) rfl ?_
  refine lv_aload_n hx hb d_OR_init_4 rfl (lv_at hl 0 rfl) ?_
  refine lv_sipush (v := nI 16448) hx hb d_OR_init_5 (by decide) ?_
  refine nw_a (atype := .int) (ty := .int) (a0 := (16448, .inl (fun _ => 0))) hx hb (hw _ m_58) rfl hK hP hD hS hA 0 rfl (fun _ h => h) (fun _ => rfl) (nI_pos (by decide)) (nI_clamp (by decide)) (by decide) (by decide) (by decide) d_OR_init_8 (fun q8 H hP hD hS => ?_)
  have hP : va_P (dC, dI) classes [(h_t, .inr (3, [.null, .null, .null, .null, .null, .null, .int 0, .int 0, .int 0, .int 0])), (q8, .inl (cI, 16448, .inl (fun _ => 0)))] H := hP
  have hD : va_D A [(h_t, .inr (3, [.null, .null, .null, .null, .null, .null, .int 0, .int 0, .int 0, .int 0])), (q8, .inl (cI, 16448, .inl (fun _ => 0)))] := hD
  refine W.widen (k := 1) (n := 16448) (by omega) (by omega) ?_
  refine va_putF (D := (dC, dI)) (ci := 3) (v := .ref q8) (ty := .array .int) (C := "SuffixIndex$SuffixOrder") (T := F_OR) (N := 10) hx hb hw i_OR t_OR t_OR_ok n_OR hown hK hP hD hS 0 rfl rfl 0 (by decide) (hw _ m_118) (fun _ h9 => h9) rfl hin rfl (by decide +kernel) rfl rfl (Nat.le_of_ble_eq_true rfl) d_OR_init_10 (fun H locs hP hD hS => ?_)
  have hP : va_P (dC, dI) classes [(h_t, .inr (3, [.ref q8, .null, .null, .null, .null, .null, .int 0, .int 0, .int 0, .int 0])), (q8, .inl (cI, 16448, .inl (fun _ => 0)))] H := hP
  have hD : va_D A [(h_t, .inr (3, [.ref q8, .null, .null, .null, .null, .null, .int 0, .int 0, .int 0, .int 0])), (q8, .inl (cI, 16448, .inl (fun _ => 0)))] := hD
  refine lv_aload_n hx hb d_OR_init_13 rfl (lv_at hl 0 rfl) ?_
  refine lv_sipush (v := nI 16448) hx hb d_OR_init_14 (by decide) ?_
  refine nw_a (atype := .int) (ty := .int) (a0 := (16448, .inl (fun _ => 0))) hx hb (hw _ m_58) rfl hK hP hD hS hA 0 rfl (fun _ h => h) (fun _ => rfl) (nI_pos (by decide)) (nI_clamp (by decide)) (by decide) (by decide) (by decide) d_OR_init_17 (fun q17 H hP hD hS => ?_)
  have hP : va_P (dC, dI) classes [(h_t, .inr (3, [.ref q8, .null, .null, .null, .null, .null, .int 0, .int 0, .int 0, .int 0])), (q8, .inl (cI, 16448, .inl (fun _ => 0))), (q17, .inl (cI, 16448, .inl (fun _ => 0)))] H := hP
  have hD : va_D A [(h_t, .inr (3, [.ref q8, .null, .null, .null, .null, .null, .int 0, .int 0, .int 0, .int 0])), (q8, .inl (cI, 16448, .inl (fun _ => 0))), (q17, .inl (cI, 16448, .inl (fun _ => 0)))] := hD
  refine W.widen (k := 2) (n := 32896) (by omega) (by omega) ?_
  refine va_putF (D := (dC, dI)) (ci := 3) (v := .ref q17) (ty := .array .int) (C := "SuffixIndex$SuffixOrder") (T := F_OR) (N := 10) hx hb hw i_OR t_OR t_OR_ok n_OR hown hK hP hD hS 0 rfl rfl 1 (by decide) (hw _ m_122) (fun _ h9 => h9) rfl hin rfl (by decide +kernel) rfl rfl (Nat.le_of_ble_eq_true rfl) d_OR_init_19 (fun H locs hP hD hS => ?_)
  have hP : va_P (dC, dI) classes [(h_t, .inr (3, [.ref q8, .ref q17, .null, .null, .null, .null, .int 0, .int 0, .int 0, .int 0])), (q8, .inl (cI, 16448, .inl (fun _ => 0))), (q17, .inl (cI, 16448, .inl (fun _ => 0)))] H := hP
  have hD : va_D A [(h_t, .inr (3, [.ref q8, .ref q17, .null, .null, .null, .null, .int 0, .int 0, .int 0, .int 0])), (q8, .inl (cI, 16448, .inl (fun _ => 0))), (q17, .inl (cI, 16448, .inl (fun _ => 0)))] := hD
  refine lv_aload_n hx hb d_OR_init_22 rfl (lv_at hl 0 rfl) ?_
  refine lv_sipush (v := nI 16448) hx hb d_OR_init_23 (by decide) ?_
  refine nw_a (atype := .int) (ty := .int) (a0 := (16448, .inl (fun _ => 0))) hx hb (hw _ m_58) rfl hK hP hD hS hA 0 rfl (fun _ h => h) (fun _ => rfl) (nI_pos (by decide)) (nI_clamp (by decide)) (by decide) (by decide) (by decide) d_OR_init_26 (fun q26 H hP hD hS => ?_)
  have hP : va_P (dC, dI) classes [(h_t, .inr (3, [.ref q8, .ref q17, .null, .null, .null, .null, .int 0, .int 0, .int 0, .int 0])), (q8, .inl (cI, 16448, .inl (fun _ => 0))), (q17, .inl (cI, 16448, .inl (fun _ => 0))), (q26, .inl (cI, 16448, .inl (fun _ => 0)))] H := hP
  have hD : va_D A [(h_t, .inr (3, [.ref q8, .ref q17, .null, .null, .null, .null, .int 0, .int 0, .int 0, .int 0])), (q8, .inl (cI, 16448, .inl (fun _ => 0))), (q17, .inl (cI, 16448, .inl (fun _ => 0))), (q26, .inl (cI, 16448, .inl (fun _ => 0)))] := hD
  refine W.widen (k := 3) (n := 49344) (by omega) (by omega) ?_
  refine va_putF (D := (dC, dI)) (ci := 3) (v := .ref q26) (ty := .array .int) (C := "SuffixIndex$SuffixOrder") (T := F_OR) (N := 10) hx hb hw i_OR t_OR t_OR_ok n_OR hown hK hP hD hS 0 rfl rfl 2 (by decide) (hw _ m_126) (fun _ h9 => h9) rfl hin rfl (by decide +kernel) rfl rfl (Nat.le_of_ble_eq_true rfl) d_OR_init_28 (fun H locs hP hD hS => ?_)
  have hP : va_P (dC, dI) classes [(h_t, .inr (3, [.ref q8, .ref q17, .ref q26, .null, .null, .null, .int 0, .int 0, .int 0, .int 0])), (q8, .inl (cI, 16448, .inl (fun _ => 0))), (q17, .inl (cI, 16448, .inl (fun _ => 0))), (q26, .inl (cI, 16448, .inl (fun _ => 0)))] H := hP
  have hD : va_D A [(h_t, .inr (3, [.ref q8, .ref q17, .ref q26, .null, .null, .null, .int 0, .int 0, .int 0, .int 0])), (q8, .inl (cI, 16448, .inl (fun _ => 0))), (q17, .inl (cI, 16448, .inl (fun _ => 0))), (q26, .inl (cI, 16448, .inl (fun _ => 0)))] := hD
  refine lv_aload_n hx hb d_OR_init_31 rfl (lv_at hl 0 rfl) ?_
  refine lv_sipush (v := nI 16448) hx hb d_OR_init_32 (by decide) ?_
  refine nw_a (atype := .long) (ty := .long) (a0 := (16448, .inr (.inl (fun _ => 0)))) hx hb (hw _ m_117) rfl hK hP hD hS hA 1 rfl (fun _ h => h) (fun _ => rfl) (nI_pos (by decide)) (nI_clamp (by decide)) (by decide) (by decide) (by decide) d_OR_init_35 (fun q35 H hP hD hS => ?_)
  have hP : va_P (dC, dI) classes [(h_t, .inr (3, [.ref q8, .ref q17, .ref q26, .null, .null, .null, .int 0, .int 0, .int 0, .int 0])), (q8, .inl (cI, 16448, .inl (fun _ => 0))), (q17, .inl (cI, 16448, .inl (fun _ => 0))), (q26, .inl (cI, 16448, .inl (fun _ => 0))), (q35, .inl (cJ, 16448, .inr (.inl (fun _ => 0))))] H := hP
  have hD : va_D A [(h_t, .inr (3, [.ref q8, .ref q17, .ref q26, .null, .null, .null, .int 0, .int 0, .int 0, .int 0])), (q8, .inl (cI, 16448, .inl (fun _ => 0))), (q17, .inl (cI, 16448, .inl (fun _ => 0))), (q26, .inl (cI, 16448, .inl (fun _ => 0))), (q35, .inl (cJ, 16448, .inr (.inl (fun _ => 0))))] := hD
  refine W.widen (k := 4) (n := 65792) (by omega) (by omega) ?_
  refine va_putF (D := (dC, dI)) (ci := 3) (v := .ref q35) (ty := .array .long) (C := "SuffixIndex$SuffixOrder") (T := F_OR) (N := 10) hx hb hw i_OR t_OR t_OR_ok n_OR hown hK hP hD hS 0 rfl rfl 3 (by decide) (hw _ m_130) (fun _ h9 => h9) rfl hin rfl (by decide +kernel) rfl rfl (Nat.le_of_ble_eq_true rfl) d_OR_init_37 (fun H locs hP hD hS => ?_)
  have hP : va_P (dC, dI) classes [(h_t, .inr (3, [.ref q8, .ref q17, .ref q26, .ref q35, .null, .null, .int 0, .int 0, .int 0, .int 0])), (q8, .inl (cI, 16448, .inl (fun _ => 0))), (q17, .inl (cI, 16448, .inl (fun _ => 0))), (q26, .inl (cI, 16448, .inl (fun _ => 0))), (q35, .inl (cJ, 16448, .inr (.inl (fun _ => 0))))] H := hP
  have hD : va_D A [(h_t, .inr (3, [.ref q8, .ref q17, .ref q26, .ref q35, .null, .null, .int 0, .int 0, .int 0, .int 0])), (q8, .inl (cI, 16448, .inl (fun _ => 0))), (q17, .inl (cI, 16448, .inl (fun _ => 0))), (q26, .inl (cI, 16448, .inl (fun _ => 0))), (q35, .inl (cJ, 16448, .inr (.inl (fun _ => 0))))] := hD
  refine lv_aload_n hx hb d_OR_init_40 rfl (lv_at hl 0 rfl) ?_
  refine va_new (ci := 2) (fs := [.null, .null, .null, .int 0]) (C := "SuffixIndex$Sorter") (T := F_SO) (N := 4) hx hb hw i_SO t_SO t_SO_ok hown (hw _ m_98) (hw _ m_99) (hw _ m_5) hK hP hD hS hA rfl (fun j hj => by rcases (show j = 0 ∨ j = 1 ∨ j = 2 ∨ j = 3 by omega) with rfl | rfl | rfl | rfl <;> rfl) (by decide) (by decide) d_OR_init_41 (fun q41 H hP hD hS => ?_)
  have hP : va_P (dC, dI) classes [(h_t, .inr (3, [.ref q8, .ref q17, .ref q26, .ref q35, .null, .null, .int 0, .int 0, .int 0, .int 0])), (q8, .inl (cI, 16448, .inl (fun _ => 0))), (q17, .inl (cI, 16448, .inl (fun _ => 0))), (q26, .inl (cI, 16448, .inl (fun _ => 0))), (q35, .inl (cJ, 16448, .inr (.inl (fun _ => 0)))), (q41, .inr (2, [.null, .null, .null, .int 0]))] H := hP
  have hD : va_D A [(h_t, .inr (3, [.ref q8, .ref q17, .ref q26, .ref q35, .null, .null, .int 0, .int 0, .int 0, .int 0])), (q8, .inl (cI, 16448, .inl (fun _ => 0))), (q17, .inl (cI, 16448, .inl (fun _ => 0))), (q26, .inl (cI, 16448, .inl (fun _ => 0))), (q35, .inl (cJ, 16448, .inr (.inl (fun _ => 0)))), (q41, .inr (2, [.null, .null, .null, .int 0]))] := hD
  refine W.widen (k := 5) (n := 65796) (by omega) (by omega) ?_
  refine lv_dup hx hb d_OR_init_44 rfl ?_
  refine cIN_v (wr := [(h_t, .inr (3, [.ref q8, .ref q17, .ref q26, .ref q35, .null, .null, .int 0, .int 0, .int 0, .int 0])), (q8, .inl (cI, 16448, .inl (fun _ => 0))), (q17, .inl (cI, 16448, .inl (fun _ => 0))), (q26, .inl (cI, 16448, .inl (fun _ => 0))), (q35, .inl (cJ, 16448, .inr (.inl (fun _ => 0))))]) (rest := [.ref q41, .ref h_t]) (c_SO_init l dC dI cI cJ cB cZ q41 H.size ) F (cw_IN (fun _ h => h) 0 hw hN.2 m_101 m_5 m_102 rfl rfl rfl (by decide +kernel) ⟨by decide, by decide⟩) hK hP hD hS hA [5] [0, 1, 2, 3, 4] rfl rfl rfl rfl (by decide) rfl hl.1 rfl (Nat.le_of_ble_eq_true rfl) d_OR_init_45 ⟨by decide, by decide⟩ (fun u H locs hv hP hD hS => ?_)
  obtain ⟨u45_0, u45_1, u45_2⟩ := u
  have hP : va_P (dC, dI) classes [(h_t, .inr (3, [.ref q8, .ref q17, .ref q26, .ref q35, .null, .null, .int 0, .int 0, .int 0, .int 0])), (q8, .inl (cI, 16448, .inl (fun _ => 0))), (q17, .inl (cI, 16448, .inl (fun _ => 0))), (q26, .inl (cI, 16448, .inl (fun _ => 0))), (q35, .inl (cJ, 16448, .inr (.inl (fun _ => 0)))), (q41, .inr (2, [.ref u45_0, .ref u45_1, .ref u45_2, .int 0])), (u45_0, .inl (cI, 16448, .inl (fun _ => 0))), (u45_1, .inl (cI, 16448, .inl (fun _ => 0))), (u45_2, .inl (cI, 16448, .inl (fun _ => 0)))] H := hP
  have hD : va_D A [(h_t, .inr (3, [.ref q8, .ref q17, .ref q26, .ref q35, .null, .null, .int 0, .int 0, .int 0, .int 0])), (q8, .inl (cI, 16448, .inl (fun _ => 0))), (q17, .inl (cI, 16448, .inl (fun _ => 0))), (q26, .inl (cI, 16448, .inl (fun _ => 0))), (q35, .inl (cJ, 16448, .inr (.inl (fun _ => 0)))), (q41, .inr (2, [.ref u45_0, .ref u45_1, .ref u45_2, .int 0])), (u45_0, .inl (cI, 16448, .inl (fun _ => 0))), (u45_1, .inl (cI, 16448, .inl (fun _ => 0))), (u45_2, .inl (cI, 16448, .inl (fun _ => 0)))] := hD
  refine W.widen (k := 8) (n := 115140) (by omega) (by omega) ?_
  refine va_putF (D := (dC, dI)) (ci := 3) (v := .ref q41) (ty := .object "SuffixIndex$Sorter") (C := "SuffixIndex$SuffixOrder") (T := F_OR) (N := 10) hx hb hw i_OR t_OR t_OR_ok n_OR hown hK hP hD hS 0 rfl rfl 4 (by decide) (hw _ m_131) (fun _ h9 => h9) rfl hin rfl (by decide +kernel) rfl rfl (Nat.le_of_ble_eq_true rfl) d_OR_init_48 (fun H locs hP hD hS => ?_)
  have hP : va_P (dC, dI) classes [(h_t, .inr (3, [.ref q8, .ref q17, .ref q26, .ref q35, .ref q41, .null, .int 0, .int 0, .int 0, .int 0])), (q8, .inl (cI, 16448, .inl (fun _ => 0))), (q17, .inl (cI, 16448, .inl (fun _ => 0))), (q26, .inl (cI, 16448, .inl (fun _ => 0))), (q35, .inl (cJ, 16448, .inr (.inl (fun _ => 0)))), (q41, .inr (2, [.ref u45_0, .ref u45_1, .ref u45_2, .int 0])), (u45_0, .inl (cI, 16448, .inl (fun _ => 0))), (u45_1, .inl (cI, 16448, .inl (fun _ => 0))), (u45_2, .inl (cI, 16448, .inl (fun _ => 0)))] H := hP
  have hD : va_D A [(h_t, .inr (3, [.ref q8, .ref q17, .ref q26, .ref q35, .ref q41, .null, .int 0, .int 0, .int 0, .int 0])), (q8, .inl (cI, 16448, .inl (fun _ => 0))), (q17, .inl (cI, 16448, .inl (fun _ => 0))), (q26, .inl (cI, 16448, .inl (fun _ => 0))), (q35, .inl (cJ, 16448, .inr (.inl (fun _ => 0)))), (q41, .inr (2, [.ref u45_0, .ref u45_1, .ref u45_2, .int 0])), (u45_0, .inl (cI, 16448, .inl (fun _ => 0))), (u45_1, .inl (cI, 16448, .inl (fun _ => 0))), (u45_2, .inl (cI, 16448, .inl (fun _ => 0)))] := hD
  refine lv_aload_n hx hb d_OR_init_51 rfl (lv_at hl 0 rfl) ?_
  refine lv_aload_n hx hb d_OR_init_52 rfl (lv_at hl 1 rfl) ?_
  refine va_putF (D := (dC, dI)) (ci := 3) (v := .ref h_p1) (ty := .object "SuffixIndex$Library") (C := "SuffixIndex$SuffixOrder") (T := F_OR) (N := 10) hx hb hw i_OR t_OR t_OR_ok n_OR hown hK hP hD hS 0 rfl rfl 5 (by decide) (hw _ m_132) (fun _ h9 => h9) rfl hin rfl (by decide +kernel) rfl rfl (Nat.le_of_ble_eq_true rfl) d_OR_init_53 (fun H locs hP hD hS => ?_)
  have hP : va_P (dC, dI) classes [(h_t, .inr (3, [.ref q8, .ref q17, .ref q26, .ref q35, .ref q41, .ref h_p1, .int 0, .int 0, .int 0, .int 0])), (q8, .inl (cI, 16448, .inl (fun _ => 0))), (q17, .inl (cI, 16448, .inl (fun _ => 0))), (q26, .inl (cI, 16448, .inl (fun _ => 0))), (q35, .inl (cJ, 16448, .inr (.inl (fun _ => 0)))), (q41, .inr (2, [.ref u45_0, .ref u45_1, .ref u45_2, .int 0])), (u45_0, .inl (cI, 16448, .inl (fun _ => 0))), (u45_1, .inl (cI, 16448, .inl (fun _ => 0))), (u45_2, .inl (cI, 16448, .inl (fun _ => 0)))] H := hP
  have hD : va_D A [(h_t, .inr (3, [.ref q8, .ref q17, .ref q26, .ref q35, .ref q41, .ref h_p1, .int 0, .int 0, .int 0, .int 0])), (q8, .inl (cI, 16448, .inl (fun _ => 0))), (q17, .inl (cI, 16448, .inl (fun _ => 0))), (q26, .inl (cI, 16448, .inl (fun _ => 0))), (q35, .inl (cJ, 16448, .inr (.inl (fun _ => 0)))), (q41, .inr (2, [.ref u45_0, .ref u45_1, .ref u45_2, .int 0])), (u45_0, .inl (cI, 16448, .inl (fun _ => 0))), (u45_1, .inl (cI, 16448, .inl (fun _ => 0))), (u45_2, .inl (cI, 16448, .inl (fun _ => 0)))] := hD
  have hP9 : va_P (dC, dI) classes [(h_t, .inr (3, [.ref q8, .ref q17, .ref q26, .ref q35, .ref q41, .ref h_p1, .int 0, .int 0, .int 0, .int 0])), (q8, .inl (cI, 16448, .inl (fun _ => 0))), (q17, .inl (cI, 16448, .inl (fun _ => 0))), (q26, .inl (cI, 16448, .inl (fun _ => 0))), (q35, .inl (cJ, 16448, .inr (.inl (fun _ => 0)))), (q41, .inr (2, [.ref u45_0, .ref u45_1, .ref u45_2, .int 0])), (u45_0, .inl (cI, 16448, .inl (fun _ => 0))), (u45_1, .inl (cI, 16448, .inl (fun _ => 0))), (u45_2, .inl (cI, 16448, .inl (fun _ => 0)))] H := P_sub hP [0, 1, 2, 3, 4, 5, 6, 7, 8] rfl
  have hD9 : va_D A [(h_t, .inr (3, [.ref q8, .ref q17, .ref q26, .ref q35, .ref q41, .ref h_p1, .int 0, .int 0, .int 0, .int 0])), (q8, .inl (cI, 16448, .inl (fun _ => 0))), (q17, .inl (cI, 16448, .inl (fun _ => 0))), (q26, .inl (cI, 16448, .inl (fun _ => 0))), (q35, .inl (cJ, 16448, .inr (.inl (fun _ => 0)))), (q41, .inr (2, [.ref u45_0, .ref u45_1, .ref u45_2, .int 0])), (u45_0, .inl (cI, 16448, .inl (fun _ => 0))), (u45_1, .inl (cI, 16448, .inl (fun _ => 0))), (u45_2, .inl (cI, 16448, .inl (fun _ => 0)))] := hD.sub [0, 1, 2, 3, 4, 5, 6, 7, 8] rfl rfl
  exact W.vret hx hb hr (fun t ht hW => ⟨⟨(q8, q17, q26, q35, q41, u45_0, u45_1, u45_2), rfl, trivial, by rw [ht]; exact hP9, va_K.moved hW.alike hK, hD9⟩, hS.F ht⟩) hS.2.2 d_OR_init_56
set_option maxHeartbeats 4000000 in
set_option maxRecDepth 100000 in
theorem c_SE_init (l : Launch) (dC : Nat → ClassId) (dI : Nat → Nat → Nat) (cI cJ cB cZ : ClassId) (h_t : Nat) (h_p1 : Nat) (h_p2 : Nat) (sz : Nat) : Met l y_SE_init (Cond.code y_SE_init b_SE_init 3 none :: WT) rm_SE_init (cPre (dC, dI) classes (TYS cI cJ cB cZ) [(h_t, .inr (4, [.null, .null, .int 0, .int 0, .null, .null, .null, .null, .null, .int 0, .int 0]))] sz [.ref h_t, .ref h_p1, .ref h_p2]) (va_Qv (fun _ : Nat × Nat × Nat × Nat × Nat × Nat => True) (fun u t => cAft (dC, dI) classes (TYS cI cJ cB cZ) (va_A [(h_t, .inr (4, [.null, .null, .int 0, .int 0, .null, .null, .null, .null, .null, .int 0, .int 0]))] sz) [(h_t, .inr (4, [.ref u.1, .ref u.2.2.1, .int 0, .int 0, .ref u.2.2.2.1, .ref u.2.2.2.2.1, .ref u.2.2.2.2.2, .ref h_p1, .ref h_p2, .int 0, .int 0])), (u.1, .inr (0, [.ref u.2.1, .int 0])), (u.2.1, .inl (cI, 200, .inl (fun _ => 0))), (u.2.2.1, .inl (cI, 16384, .inl (fun _ => 0))), (u.2.2.2.1, .inl (cI, 4, .inl (fun _ => 0))), (u.2.2.2.2.1, .inl (cI, 4, .inl (fun _ => 0))), (u.2.2.2.2.2, .inl (cI, 64, .inl (fun _ => 0)))] t) (va_A [(h_t, .inr (4, [.null, .null, .int 0, .int 0, .null, .null, .null, .null, .null, .int 0, .int 0]))] sz)) 6 16658 (va_A [(h_t, .inr (4, [.null, .null, .int 0, .int 0, .null, .null, .null, .null, .null, .int 0, .int 0]))] sz) := by
  refine Met.ofW (cc := b_SE_init) (maxL := 3) (ret := none) (by decide) rfl ?_
  intro p e s m args below meth c s₁ B hml hq
  obtain ⟨rfl, hsz, hP, hK, hD0⟩ := hq
  have hts := atoms_spec (ws := Cond.code y_SE_init b_SE_init 3 none :: WT) B.pre
  have hw : ∀ w ∈ WT, w.before ([.ref h_t, .ref h_p1, .ref h_p2] : List Value).toArray s = true := fun w h => hts w (List.mem_cons_of_mem _ h)
  have hx := B.exec
  have hb := B.bytes
  have hr := B.returns
  have hlk := B.notSynchronized
  have hin : meth.name = "<init>" := (name_of_methodNamed B.named B.method).1
  have hown : s.vm.findClass "SuffixIndex$Search" = some m.cls := findClass_of_methodNamed B.named
  have F : CallFix p m c b_SE_init 3 s ([.ref h_t, .ref h_p1, .ref h_p2] : List Value).toArray WT "SuffixIndex$Search" := ⟨hx, hb, hml, hown, hw⟩
  subst hsz
  have hD := hD0.self (sz := s.heap.size)
  generalize hAe : va_A [(h_t, .inr (4, [.null, .null, .int 0, .int 0, .null, .null, .null, .null, .null, .int 0, .int 0]))] s.heap.size = A at hD ⊢
  have hA : ∀ q : Nat, s.heap.size ≤ q → A q := fun q h => by rw [← hAe]; exact Or.inr h
  have hS : va_S A s.heap s.heap [] := va_S.rf
  have hl := lv_entry ([.ref h_t, .ref h_p1, .ref h_p2]) (n := 3) (Nat.le_of_ble_eq_true rfl)
  rw [lg_entry_eq]
  generalize (lg_sl ([.ref h_t, .ref h_p1, .ref h_p2]) ++ List.replicate (3 - (lg_sl ([.ref h_t, .ref h_p1, .ref h_p2])).length) Slot.unset).toArray = ls at hl ⊢
  have hl : lv_has ls 3 [(0, .ref h_t), (1, .ref h_p1), (2, .ref h_p2)] := hl
  show W p l e rm_SE_init s m _ below meth c s.heap [] 0 0 _ _
  have hP : va_P (dC, dI) classes [(h_t, .inr (4, [.null, .null, .int 0, .int 0, .null, .null, .null, .null, .null, .int 0, .int 0]))] s.heap := hP
  obtain ⟨H, hHe⟩ : ∃ H, H = s.heap := ⟨_, rfl⟩
  have hS : va_S A s.heap H [] := by rw [hHe]; exact hS
  rw [← hHe] at hP
  suffices hgoal : W p l e rm_SE_init s m ([.ref h_t, .ref h_p1, .ref h_p2] : List Value).toArray below meth c H [] 0 0 (MQ below (va_Qv (fun _ : Nat × Nat × Nat × Nat × Nat × Nat => True) (fun u t => cAft (dC, dI) classes (TYS cI cJ cB cZ) A [(h_t, .inr (4, [.ref u.1, .ref u.2.2.1, .int 0, .int 0, .ref u.2.2.2.1, .ref u.2.2.2.2.1, .ref u.2.2.2.2.2, .ref h_p1, .ref h_p2, .int 0, .int 0])), (u.1, .inr (0, [.ref u.2.1, .int 0])), (u.2.1, .inl (cI, 200, .inl (fun _ => 0))), (u.2.2.1, .inl (cI, 16384, .inl (fun _ => 0))), (u.2.2.2.1, .inl (cI, 4, .inl (fun _ => 0))), (u.2.2.2.2.1, .inl (cI, 4, .inl (fun _ => 0))), (u.2.2.2.2.2, .inl (cI, 64, .inl (fun _ => 0)))] t) A) ([.ref h_t, .ref h_p1, .ref h_p2] : List Value).toArray s 6 16658 A) (F0 m 0 ls []) by rw [hHe] at hgoal; exact hgoal
  refine lv_aload_n hx hb d_SE_init_0 rfl (lv_at hl 0 rfl) ?_
  refine W.objInit hx hb hown (hw _ m_171) (hw _ m_35) (hw _ m_36) rfl (by rw [hml]; exact hl.1) rfl d_SE_init_1 (Nat.le_of_ble_eq_true rfl) (Nat.le_of_ble_eq_true rfl) ?_
  refine W.eq (g2 := F0 m 4 ls []) rfl ?_
  refine lv_aload_n hx hb d_SE_init_4 rfl (lv_at hl 0 rfl) ?_
  refine va_new (ci := 0) (fs := [.null, .int 0]) (C := "SuffixIndex$ByteRow") (T := F_BR) (N := 2) hx hb hw i_BR t_BR t_BR_ok hown (hw _ m_172) (hw _ m_38) (hw _ m_2) hK hP hD hS hA rfl (fun j hj => by rcases (show j = 0 ∨ j = 1 by omega) with rfl | rfl <;> rfl) (by decide) (by decide) d_SE_init_5 (fun q5 H hP hD hS => ?_)
  have hP : va_P (dC, dI) classes [(h_t, .inr (4, [.null, .null, .int 0, .int 0, .null, .null, .null, .null, .null, .int 0, .int 0])), (q5, .inr (0, [.null, .int 0]))] H := hP
  have hD : va_D A [(h_t, .inr (4, [.null, .null, .int 0, .int 0, .null, .null, .null, .null, .null, .int 0, .int 0])), (q5, .inr (0, [.null, .int 0]))] := hD
  refine W.widen (k := 1) (n := 2) (by omega) (by omega) ?_
  refine lv_dup hx hb d_SE_init_8 rfl ?_
  refine lv_sipush (v := nI 200) hx hb d_SE_init_9 (by decide) ?_
  refine cI_v (wr := [(h_t, .inr (4, [.null, .null, .int 0, .int 0, .null, .null, .null, .null, .null, .int 0, .int 0]))]) (rest := [.ref q5, .ref h_t]) (c_BR_init l dC dI cI cJ cB cZ q5 H.size 200 (by decide)) F (cw_I (fun _ h => h) 1 hw m_173 m_40 m_2 m_41 rfl rfl rfl (by decide +kernel) ⟨by decide, by decide⟩) hK hP hD hS hA [1] [0] rfl rfl rfl rfl (by decide) rfl hl.1 rfl (Nat.le_of_ble_eq_true rfl) d_SE_init_12 ⟨by decide, by decide⟩ (fun u H locs hv hP hD hS => ?_)
  obtain ⟨u12_0, rfl⟩ : ∃ z, z = u := ⟨_, rfl⟩
  have hP : va_P (dC, dI) classes [(h_t, .inr (4, [.null, .null, .int 0, .int 0, .null, .null, .null, .null, .null, .int 0, .int 0])), (q5, .inr (0, [.ref u12_0, .int 0])), (u12_0, .inl (cI, 200, .inl (fun _ => 0)))] H := hP
  have hD : va_D A [(h_t, .inr (4, [.null, .null, .int 0, .int 0, .null, .null, .null, .null, .null, .int 0, .int 0])), (q5, .inr (0, [.ref u12_0, .int 0])), (u12_0, .inl (cI, 200, .inl (fun _ => 0)))] := hD
  refine W.widen (k := 2) (n := 202) (by omega) (by omega) ?_
  refine va_putF (D := (dC, dI)) (ci := 4) (v := .ref q5) (ty := .object "SuffixIndex$ByteRow") (C := "SuffixIndex$Search") (T := F_SE) (N := 11) hx hb hw i_SE t_SE t_SE_ok n_SE hown hK hP hD hS 0 rfl rfl 0 (by decide) (hw _ m_174) (fun _ h9 => h9) rfl hin rfl (by decide +kernel) rfl rfl (Nat.le_of_ble_eq_true rfl) d_SE_init_15 (fun H locs hP hD hS => ?_)
  have hP : va_P (dC, dI) classes [(h_t, .inr (4, [.ref q5, .null, .int 0, .int 0, .null, .null, .null, .null, .null, .int 0, .int 0])), (q5, .inr (0, [.ref u12_0, .int 0])), (u12_0, .inl (cI, 200, .inl (fun _ => 0)))] H := hP
  have hD : va_D A [(h_t, .inr (4, [.ref q5, .null, .int 0, .int 0, .null, .null, .null, .null, .null, .int 0, .int 0])), (q5, .inr (0, [.ref u12_0, .int 0])), (u12_0, .inl (cI, 200, .inl (fun _ => 0)))] := hD
  refine lv_aload_n hx hb d_SE_init_18 rfl (lv_at hl 0 rfl) ?_
  refine lv_sipush (v := nI 16384) hx hb d_SE_init_19 (by decide) ?_
  refine nw_a (atype := .int) (ty := .int) (a0 := (16384, .inl (fun _ => 0))) hx hb (hw _ m_58) rfl hK hP hD hS hA 0 rfl (fun _ h => h) (fun _ => rfl) (nI_pos (by decide)) (nI_clamp (by decide)) (by decide) (by decide) (by decide) d_SE_init_22 (fun q22 H hP hD hS => ?_)
  have hP : va_P (dC, dI) classes [(h_t, .inr (4, [.ref q5, .null, .int 0, .int 0, .null, .null, .null, .null, .null, .int 0, .int 0])), (q5, .inr (0, [.ref u12_0, .int 0])), (u12_0, .inl (cI, 200, .inl (fun _ => 0))), (q22, .inl (cI, 16384, .inl (fun _ => 0)))] H := hP
  have hD : va_D A [(h_t, .inr (4, [.ref q5, .null, .int 0, .int 0, .null, .null, .null, .null, .null, .int 0, .int 0])), (q5, .inr (0, [.ref u12_0, .int 0])), (u12_0, .inl (cI, 200, .inl (fun _ => 0))), (q22, .inl (cI, 16384, .inl (fun _ => 0)))] := hD
  refine W.widen (k := 3) (n := 16586) (by omega) (by omega) ?_
  refine va_putF (D := (dC, dI)) (ci := 4) (v := .ref q22) (ty := .array .int) (C := "SuffixIndex$Search") (T := F_SE) (N := 11) hx hb hw i_SE t_SE t_SE_ok n_SE hown hK hP hD hS 0 rfl rfl 1 (by decide) (hw _ m_176) (fun _ h9 => h9) rfl hin rfl (by decide +kernel) rfl rfl (Nat.le_of_ble_eq_true rfl) d_SE_init_24 (fun H locs hP hD hS => ?_)
  have hP : va_P (dC, dI) classes [(h_t, .inr (4, [.ref q5, .ref q22, .int 0, .int 0, .null, .null, .null, .null, .null, .int 0, .int 0])), (q5, .inr (0, [.ref u12_0, .int 0])), (u12_0, .inl (cI, 200, .inl (fun _ => 0))), (q22, .inl (cI, 16384, .inl (fun _ => 0)))] H := hP
  have hD : va_D A [(h_t, .inr (4, [.ref q5, .ref q22, .int 0, .int 0, .null, .null, .null, .null, .null, .int 0, .int 0])), (q5, .inr (0, [.ref u12_0, .int 0])), (u12_0, .inl (cI, 200, .inl (fun _ => 0))), (q22, .inl (cI, 16384, .inl (fun _ => 0)))] := hD
  refine lv_aload_n hx hb d_SE_init_27 rfl (lv_at hl 0 rfl) ?_
  refine lv_iconst (v := nI 4) hx hb d_SE_init_28 (by decide) ?_
  refine nw_a (atype := .int) (ty := .int) (a0 := (4, .inl (fun _ => 0))) hx hb (hw _ m_58) rfl hK hP hD hS hA 0 rfl (fun _ h => h) (fun _ => rfl) (nI_pos (by decide)) (nI_clamp (by decide)) (by decide) (by decide) (by decide) d_SE_init_29 (fun q29 H hP hD hS => ?_)
  have hP : va_P (dC, dI) classes [(h_t, .inr (4, [.ref q5, .ref q22, .int 0, .int 0, .null, .null, .null, .null, .null, .int 0, .int 0])), (q5, .inr (0, [.ref u12_0, .int 0])), (u12_0, .inl (cI, 200, .inl (fun _ => 0))), (q22, .inl (cI, 16384, .inl (fun _ => 0))), (q29, .inl (cI, 4, .inl (fun _ => 0)))] H := hP
  have hD : va_D A [(h_t, .inr (4, [.ref q5, .ref q22, .int 0, .int 0, .null, .null, .null, .null, .null, .int 0, .int 0])), (q5, .inr (0, [.ref u12_0, .int 0])), (u12_0, .inl (cI, 200, .inl (fun _ => 0))), (q22, .inl (cI, 16384, .inl (fun _ => 0))), (q29, .inl (cI, 4, .inl (fun _ => 0)))] := hD
  refine W.widen (k := 4) (n := 16590) (by omega) (by omega) ?_
  refine va_putF (D := (dC, dI)) (ci := 4) (v := .ref q29) (ty := .array .int) (C := "SuffixIndex$Search") (T := F_SE) (N := 11) hx hb hw i_SE t_SE t_SE_ok n_SE hown hK hP hD hS 0 rfl rfl 4 (by decide) (hw _ m_182) (fun _ h9 => h9) rfl hin rfl (by decide +kernel) rfl rfl (Nat.le_of_ble_eq_true rfl) d_SE_init_31 (fun H locs hP hD hS => ?_)
  have hP : va_P (dC, dI) classes [(h_t, .inr (4, [.ref q5, .ref q22, .int 0, .int 0, .ref q29, .null, .null, .null, .null, .int 0, .int 0])), (q5, .inr (0, [.ref u12_0, .int 0])), (u12_0, .inl (cI, 200, .inl (fun _ => 0))), (q22, .inl (cI, 16384, .inl (fun _ => 0))), (q29, .inl (cI, 4, .inl (fun _ => 0)))] H := hP
  have hD : va_D A [(h_t, .inr (4, [.ref q5, .ref q22, .int 0, .int 0, .ref q29, .null, .null, .null, .null, .int 0, .int 0])), (q5, .inr (0, [.ref u12_0, .int 0])), (u12_0, .inl (cI, 200, .inl (fun _ => 0))), (q22, .inl (cI, 16384, .inl (fun _ => 0))), (q29, .inl (cI, 4, .inl (fun _ => 0)))] := hD
  refine lv_aload_n hx hb d_SE_init_34 rfl (lv_at hl 0 rfl) ?_
  refine lv_iconst (v := nI 4) hx hb d_SE_init_35 (by decide) ?_
  refine nw_a (atype := .int) (ty := .int) (a0 := (4, .inl (fun _ => 0))) hx hb (hw _ m_58) rfl hK hP hD hS hA 0 rfl (fun _ h => h) (fun _ => rfl) (nI_pos (by decide)) (nI_clamp (by decide)) (by decide) (by decide) (by decide) d_SE_init_36 (fun q36 H hP hD hS => ?_)
  have hP : va_P (dC, dI) classes [(h_t, .inr (4, [.ref q5, .ref q22, .int 0, .int 0, .ref q29, .null, .null, .null, .null, .int 0, .int 0])), (q5, .inr (0, [.ref u12_0, .int 0])), (u12_0, .inl (cI, 200, .inl (fun _ => 0))), (q22, .inl (cI, 16384, .inl (fun _ => 0))), (q29, .inl (cI, 4, .inl (fun _ => 0))), (q36, .inl (cI, 4, .inl (fun _ => 0)))] H := hP
  have hD : va_D A [(h_t, .inr (4, [.ref q5, .ref q22, .int 0, .int 0, .ref q29, .null, .null, .null, .null, .int 0, .int 0])), (q5, .inr (0, [.ref u12_0, .int 0])), (u12_0, .inl (cI, 200, .inl (fun _ => 0))), (q22, .inl (cI, 16384, .inl (fun _ => 0))), (q29, .inl (cI, 4, .inl (fun _ => 0))), (q36, .inl (cI, 4, .inl (fun _ => 0)))] := hD
  refine W.widen (k := 5) (n := 16594) (by omega) (by omega) ?_
  refine va_putF (D := (dC, dI)) (ci := 4) (v := .ref q36) (ty := .array .int) (C := "SuffixIndex$Search") (T := F_SE) (N := 11) hx hb hw i_SE t_SE t_SE_ok n_SE hown hK hP hD hS 0 rfl rfl 5 (by decide) (hw _ m_184) (fun _ h9 => h9) rfl hin rfl (by decide +kernel) rfl rfl (Nat.le_of_ble_eq_true rfl) d_SE_init_38 (fun H locs hP hD hS => ?_)
  have hP : va_P (dC, dI) classes [(h_t, .inr (4, [.ref q5, .ref q22, .int 0, .int 0, .ref q29, .ref q36, .null, .null, .null, .int 0, .int 0])), (q5, .inr (0, [.ref u12_0, .int 0])), (u12_0, .inl (cI, 200, .inl (fun _ => 0))), (q22, .inl (cI, 16384, .inl (fun _ => 0))), (q29, .inl (cI, 4, .inl (fun _ => 0))), (q36, .inl (cI, 4, .inl (fun _ => 0)))] H := hP
  have hD : va_D A [(h_t, .inr (4, [.ref q5, .ref q22, .int 0, .int 0, .ref q29, .ref q36, .null, .null, .null, .int 0, .int 0])), (q5, .inr (0, [.ref u12_0, .int 0])), (u12_0, .inl (cI, 200, .inl (fun _ => 0))), (q22, .inl (cI, 16384, .inl (fun _ => 0))), (q29, .inl (cI, 4, .inl (fun _ => 0))), (q36, .inl (cI, 4, .inl (fun _ => 0)))] := hD
  refine lv_aload_n hx hb d_SE_init_41 rfl (lv_at hl 0 rfl) ?_
  refine lv_bipush (v := nI 64) hx hb d_SE_init_42 (by decide) ?_
  refine nw_a (atype := .int) (ty := .int) (a0 := (64, .inl (fun _ => 0))) hx hb (hw _ m_58) rfl hK hP hD hS hA 0 rfl (fun _ h => h) (fun _ => rfl) (nI_pos (by decide)) (nI_clamp (by decide)) (by decide) (by decide) (by decide) d_SE_init_44 (fun q44 H hP hD hS => ?_)
  have hP : va_P (dC, dI) classes [(h_t, .inr (4, [.ref q5, .ref q22, .int 0, .int 0, .ref q29, .ref q36, .null, .null, .null, .int 0, .int 0])), (q5, .inr (0, [.ref u12_0, .int 0])), (u12_0, .inl (cI, 200, .inl (fun _ => 0))), (q22, .inl (cI, 16384, .inl (fun _ => 0))), (q29, .inl (cI, 4, .inl (fun _ => 0))), (q36, .inl (cI, 4, .inl (fun _ => 0))), (q44, .inl (cI, 64, .inl (fun _ => 0)))] H := hP
  have hD : va_D A [(h_t, .inr (4, [.ref q5, .ref q22, .int 0, .int 0, .ref q29, .ref q36, .null, .null, .null, .int 0, .int 0])), (q5, .inr (0, [.ref u12_0, .int 0])), (u12_0, .inl (cI, 200, .inl (fun _ => 0))), (q22, .inl (cI, 16384, .inl (fun _ => 0))), (q29, .inl (cI, 4, .inl (fun _ => 0))), (q36, .inl (cI, 4, .inl (fun _ => 0))), (q44, .inl (cI, 64, .inl (fun _ => 0)))] := hD
  refine W.widen (k := 6) (n := 16658) (by omega) (by omega) ?_
  refine va_putF (D := (dC, dI)) (ci := 4) (v := .ref q44) (ty := .array .int) (C := "SuffixIndex$Search") (T := F_SE) (N := 11) hx hb hw i_SE t_SE t_SE_ok n_SE hown hK hP hD hS 0 rfl rfl 6 (by decide) (hw _ m_186) (fun _ h9 => h9) rfl hin rfl (by decide +kernel) rfl rfl (Nat.le_of_ble_eq_true rfl) d_SE_init_46 (fun H locs hP hD hS => ?_)
  have hP : va_P (dC, dI) classes [(h_t, .inr (4, [.ref q5, .ref q22, .int 0, .int 0, .ref q29, .ref q36, .ref q44, .null, .null, .int 0, .int 0])), (q5, .inr (0, [.ref u12_0, .int 0])), (u12_0, .inl (cI, 200, .inl (fun _ => 0))), (q22, .inl (cI, 16384, .inl (fun _ => 0))), (q29, .inl (cI, 4, .inl (fun _ => 0))), (q36, .inl (cI, 4, .inl (fun _ => 0))), (q44, .inl (cI, 64, .inl (fun _ => 0)))] H := hP
  have hD : va_D A [(h_t, .inr (4, [.ref q5, .ref q22, .int 0, .int 0, .ref q29, .ref q36, .ref q44, .null, .null, .int 0, .int 0])), (q5, .inr (0, [.ref u12_0, .int 0])), (u12_0, .inl (cI, 200, .inl (fun _ => 0))), (q22, .inl (cI, 16384, .inl (fun _ => 0))), (q29, .inl (cI, 4, .inl (fun _ => 0))), (q36, .inl (cI, 4, .inl (fun _ => 0))), (q44, .inl (cI, 64, .inl (fun _ => 0)))] := hD
  refine lv_aload_n hx hb d_SE_init_49 rfl (lv_at hl 0 rfl) ?_
  refine lv_aload_n hx hb d_SE_init_50 rfl (lv_at hl 1 rfl) ?_
  refine va_putF (D := (dC, dI)) (ci := 4) (v := .ref h_p1) (ty := .object "SuffixIndex$Library") (C := "SuffixIndex$Search") (T := F_SE) (N := 11) hx hb hw i_SE t_SE t_SE_ok n_SE hown hK hP hD hS 0 rfl rfl 7 (by decide) (hw _ m_187) (fun _ h9 => h9) rfl hin rfl (by decide +kernel) rfl rfl (Nat.le_of_ble_eq_true rfl) d_SE_init_51 (fun H locs hP hD hS => ?_)
  have hP : va_P (dC, dI) classes [(h_t, .inr (4, [.ref q5, .ref q22, .int 0, .int 0, .ref q29, .ref q36, .ref q44, .ref h_p1, .null, .int 0, .int 0])), (q5, .inr (0, [.ref u12_0, .int 0])), (u12_0, .inl (cI, 200, .inl (fun _ => 0))), (q22, .inl (cI, 16384, .inl (fun _ => 0))), (q29, .inl (cI, 4, .inl (fun _ => 0))), (q36, .inl (cI, 4, .inl (fun _ => 0))), (q44, .inl (cI, 64, .inl (fun _ => 0)))] H := hP
  have hD : va_D A [(h_t, .inr (4, [.ref q5, .ref q22, .int 0, .int 0, .ref q29, .ref q36, .ref q44, .ref h_p1, .null, .int 0, .int 0])), (q5, .inr (0, [.ref u12_0, .int 0])), (u12_0, .inl (cI, 200, .inl (fun _ => 0))), (q22, .inl (cI, 16384, .inl (fun _ => 0))), (q29, .inl (cI, 4, .inl (fun _ => 0))), (q36, .inl (cI, 4, .inl (fun _ => 0))), (q44, .inl (cI, 64, .inl (fun _ => 0)))] := hD
  refine lv_aload_n hx hb d_SE_init_54 rfl (lv_at hl 0 rfl) ?_
  refine lv_aload_n hx hb d_SE_init_55 rfl (lv_at hl 2 rfl) ?_
  refine va_putF (D := (dC, dI)) (ci := 4) (v := .ref h_p2) (ty := .object "SuffixIndex$SuffixOrder") (C := "SuffixIndex$Search") (T := F_SE) (N := 11) hx hb hw i_SE t_SE t_SE_ok n_SE hown hK hP hD hS 0 rfl rfl 8 (by decide) (hw _ m_188) (fun _ h9 => h9) rfl hin rfl (by decide +kernel) rfl rfl (Nat.le_of_ble_eq_true rfl) d_SE_init_56 (fun H locs hP hD hS => ?_)
  have hP : va_P (dC, dI) classes [(h_t, .inr (4, [.ref q5, .ref q22, .int 0, .int 0, .ref q29, .ref q36, .ref q44, .ref h_p1, .ref h_p2, .int 0, .int 0])), (q5, .inr (0, [.ref u12_0, .int 0])), (u12_0, .inl (cI, 200, .inl (fun _ => 0))), (q22, .inl (cI, 16384, .inl (fun _ => 0))), (q29, .inl (cI, 4, .inl (fun _ => 0))), (q36, .inl (cI, 4, .inl (fun _ => 0))), (q44, .inl (cI, 64, .inl (fun _ => 0)))] H := hP
  have hD : va_D A [(h_t, .inr (4, [.ref q5, .ref q22, .int 0, .int 0, .ref q29, .ref q36, .ref q44, .ref h_p1, .ref h_p2, .int 0, .int 0])), (q5, .inr (0, [.ref u12_0, .int 0])), (u12_0, .inl (cI, 200, .inl (fun _ => 0))), (q22, .inl (cI, 16384, .inl (fun _ => 0))), (q29, .inl (cI, 4, .inl (fun _ => 0))), (q36, .inl (cI, 4, .inl (fun _ => 0))), (q44, .inl (cI, 64, .inl (fun _ => 0)))] := hD
  have hP9 : va_P (dC, dI) classes [(h_t, .inr (4, [.ref q5, .ref q22, .int 0, .int 0, .ref q29, .ref q36, .ref q44, .ref h_p1, .ref h_p2, .int 0, .int 0])), (q5, .inr (0, [.ref u12_0, .int 0])), (u12_0, .inl (cI, 200, .inl (fun _ => 0))), (q22, .inl (cI, 16384, .inl (fun _ => 0))), (q29, .inl (cI, 4, .inl (fun _ => 0))), (q36, .inl (cI, 4, .inl (fun _ => 0))), (q44, .inl (cI, 64, .inl (fun _ => 0)))] H := P_sub hP [0, 1, 2, 3, 4, 5, 6] rfl
  have hD9 : va_D A [(h_t, .inr (4, [.ref q5, .ref q22, .int 0, .int 0, .ref q29, .ref q36, .ref q44, .ref h_p1, .ref h_p2, .int 0, .int 0])), (q5, .inr (0, [.ref u12_0, .int 0])), (u12_0, .inl (cI, 200, .inl (fun _ => 0))), (q22, .inl (cI, 16384, .inl (fun _ => 0))), (q29, .inl (cI, 4, .inl (fun _ => 0))), (q36, .inl (cI, 4, .inl (fun _ => 0))), (q44, .inl (cI, 64, .inl (fun _ => 0)))] := hD.sub [0, 1, 2, 3, 4, 5, 6] rfl rfl
  exact W.vret hx hb hr (fun t ht hW => ⟨⟨(q5, u12_0, q22, q29, q36, q44), rfl, trivial, by rw [ht]; exact hP9, va_K.moved hW.alike hK, hD9⟩, hS.F ht⟩) hS.2.2 d_SE_init_59
set_option maxHeartbeats 4000000 in
set_option maxRecDepth 100000 in
theorem c_WI_init (l : Launch) (dC : Nat → ClassId) (dI : Nat → Nat → Nat) (cI cJ cB cZ : ClassId) (h_t : Nat) (h_p1 : Nat) (h_p2 : Nat) (sz : Nat) : Met l y_WI_init (Cond.code y_WI_init b_WI_init 3 none :: WT) rm_WI_init (cPre (dC, dI) classes (TYS cI cJ cB cZ) [(h_t, .inr (5, [.int 0, .int 0, .null, .null, .null, .null, .int 0, .int 0]))] sz [.ref h_t, .ref h_p1, .ref h_p2]) (va_Qv (fun _ : Nat × Nat => True) (fun u t => cAft (dC, dI) classes (TYS cI cJ cB cZ) (va_A [(h_t, .inr (5, [.int 0, .int 0, .null, .null, .null, .null, .int 0, .int 0]))] sz) [(h_t, .inr (5, [.int 0, .int 0, .ref h_p1, .ref h_p2, .ref u.1, .ref u.2, .int 0, .int 0])), (u.1, .inl (cI, 64, .inl (fun _ => 0))), (u.2, .inl (cI, 16448, .inl (fun _ => 0)))] t) (va_A [(h_t, .inr (5, [.int 0, .int 0, .null, .null, .null, .null, .int 0, .int 0]))] sz)) 2 16512 (va_A [(h_t, .inr (5, [.int 0, .int 0, .null, .null, .null, .null, .int 0, .int 0]))] sz) := by
  refine Met.ofW (cc := b_WI_init) (maxL := 3) (ret := none) (by decide) rfl ?_
  intro p e s m args below meth c s₁ B hml hq
  obtain ⟨rfl, hsz, hP, hK, hD0⟩ := hq
  have hts := atoms_spec (ws := Cond.code y_WI_init b_WI_init 3 none :: WT) B.pre
  have hw : ∀ w ∈ WT, w.before ([.ref h_t, .ref h_p1, .ref h_p2] : List Value).toArray s = true := fun w h => hts w (List.mem_cons_of_mem _ h)
  have hx := B.exec
  have hb := B.bytes
  have hr := B.returns
  have hlk := B.notSynchronized
  have hin : meth.name = "<init>" := (name_of_methodNamed B.named B.method).1
  have hown : s.vm.findClass "SuffixIndex$Window" = some m.cls := findClass_of_methodNamed B.named
  have F : CallFix p m c b_WI_init 3 s ([.ref h_t, .ref h_p1, .ref h_p2] : List Value).toArray WT "SuffixIndex$Window" := ⟨hx, hb, hml, hown, hw⟩
  subst hsz
  have hD := hD0.self (sz := s.heap.size)
  generalize hAe : va_A [(h_t, .inr (5, [.int 0, .int 0, .null, .null, .null, .null, .int 0, .int 0]))] s.heap.size = A at hD ⊢
  have hA : ∀ q : Nat, s.heap.size ≤ q → A q := fun q h => by rw [← hAe]; exact Or.inr h
  have hS : va_S A s.heap s.heap [] := va_S.rf
  have hl := lv_entry ([.ref h_t, .ref h_p1, .ref h_p2]) (n := 3) (Nat.le_of_ble_eq_true rfl)
  rw [lg_entry_eq]
  generalize (lg_sl ([.ref h_t, .ref h_p1, .ref h_p2]) ++ List.replicate (3 - (lg_sl ([.ref h_t, .ref h_p1, .ref h_p2])).length) Slot.unset).toArray = ls at hl ⊢
  have hl : lv_has ls 3 [(0, .ref h_t), (1, .ref h_p1), (2, .ref h_p2)] := hl
  show W p l e rm_WI_init s m _ below meth c s.heap [] 0 0 _ _
  have hP : va_P (dC, dI) classes [(h_t, .inr (5, [.int 0, .int 0, .null, .null, .null, .null, .int 0, .int 0]))] s.heap := hP
  obtain ⟨H, hHe⟩ : ∃ H, H = s.heap := ⟨_, rfl⟩
  have hS : va_S A s.heap H [] := by rw [hHe]; exact hS
  rw [← hHe] at hP
  suffices hgoal : W p l e rm_WI_init s m ([.ref h_t, .ref h_p1, .ref h_p2] : List Value).toArray below meth c H [] 0 0 (MQ below (va_Qv (fun _ : Nat × Nat => True) (fun u t => cAft (dC, dI) classes (TYS cI cJ cB cZ) A [(h_t, .inr (5, [.int 0, .int 0, .ref h_p1, .ref h_p2, .ref u.1, .ref u.2, .int 0, .int 0])), (u.1, .inl (cI, 64, .inl (fun _ => 0))), (u.2, .inl (cI, 16448, .inl (fun _ => 0)))] t) A) ([.ref h_t, .ref h_p1, .ref h_p2] : List Value).toArray s 2 16512 A) (F0 m 0 ls []) by rw [hHe] at hgoal; exact hgoal
  refine lv_aload_n hx hb d_WI_init_0 rfl (lv_at hl 0 rfl) ?_
  refine W.objInit hx hb hown (hw _ m_219) (hw _ m_35) (hw _ m_36) rfl (by rw [hml]; exact hl.1) rfl d_WI_init_1 (Nat.le_of_ble_eq_true rfl) (Nat.le_of_ble_eq_true rfl) ?_
  refine W.eq (g2 := F0 m 4 ls []) rfl ?_
  refine lv_aload_n hx hb d_WI_init_4 rfl (lv_at hl 0 rfl) ?_
  refine lv_bipush (v := nI 64) hx hb d_WI_init_5 (by decide) ?_
  refine nw_a (atype := .int) (ty := .int) (a0 := (64, .inl (fun _ => 0))) hx hb (hw _ m_58) rfl hK hP hD hS hA 0 rfl (fun _ h => h) (fun _ => rfl) (nI_pos (by decide)) (nI_clamp (by decide)) (by decide) (by decide) (by decide) d_WI_init_7 (fun q7 H hP hD hS => ?_)
  have hP : va_P (dC, dI) classes [(h_t, .inr (5, [.int 0, .int 0, .null, .null, .null, .null, .int 0, .int 0])), (q7, .inl (cI, 64, .inl (fun _ => 0)))] H := hP
  have hD : va_D A [(h_t, .inr (5, [.int 0, .int 0, .null, .null, .null, .null, .int 0, .int 0])), (q7, .inl (cI, 64, .inl (fun _ => 0)))] := hD
  refine W.widen (k := 1) (n := 64) (by omega) (by omega) ?_
  refine va_putF (D := (dC, dI)) (ci := 5) (v := .ref q7) (ty := .array .int) (C := "SuffixIndex$Window") (T := F_WI) (N := 8) hx hb hw i_WI t_WI t_WI_ok n_WI hown hK hP hD hS 0 rfl rfl 4 (by decide) (hw _ m_226) (fun _ h9 => h9) rfl hin rfl (by decide +kernel) rfl rfl (Nat.le_of_ble_eq_true rfl) d_WI_init_9 (fun H locs hP hD hS => ?_)
  have hP : va_P (dC, dI) classes [(h_t, .inr (5, [.int 0, .int 0, .null, .null, .ref q7, .null, .int 0, .int 0])), (q7, .inl (cI, 64, .inl (fun _ => 0)))] H := hP
  have hD : va_D A [(h_t, .inr (5, [.int 0, .int 0, .null, .null, .ref q7, .null, .int 0, .int 0])), (q7, .inl (cI, 64, .inl (fun _ => 0)))] := hD
  refine lv_aload_n hx hb d_WI_init_12 rfl (lv_at hl 0 rfl) ?_
  refine lv_sipush (v := nI 16448) hx hb d_WI_init_13 (by decide) ?_
  refine nw_a (atype := .int) (ty := .int) (a0 := (16448, .inl (fun _ => 0))) hx hb (hw _ m_58) rfl hK hP hD hS hA 0 rfl (fun _ h => h) (fun _ => rfl) (nI_pos (by decide)) (nI_clamp (by decide)) (by decide) (by decide) (by decide) d_WI_init_16 (fun q16 H hP hD hS => ?_)
  have hP : va_P (dC, dI) classes [(h_t, .inr (5, [.int 0, .int 0, .null, .null, .ref q7, .null, .int 0, .int 0])), (q7, .inl (cI, 64, .inl (fun _ => 0))), (q16, .inl (cI, 16448, .inl (fun _ => 0)))] H := hP
  have hD : va_D A [(h_t, .inr (5, [.int 0, .int 0, .null, .null, .ref q7, .null, .int 0, .int 0])), (q7, .inl (cI, 64, .inl (fun _ => 0))), (q16, .inl (cI, 16448, .inl (fun _ => 0)))] := hD
  refine W.widen (k := 2) (n := 16512) (by omega) (by omega) ?_
  refine va_putF (D := (dC, dI)) (ci := 5) (v := .ref q16) (ty := .array .int) (C := "SuffixIndex$Window") (T := F_WI) (N := 8) hx hb hw i_WI t_WI t_WI_ok n_WI hown hK hP hD hS 0 rfl rfl 5 (by decide) (hw _ m_227) (fun _ h9 => h9) rfl hin rfl (by decide +kernel) rfl rfl (Nat.le_of_ble_eq_true rfl) d_WI_init_18 (fun H locs hP hD hS => ?_)
  have hP : va_P (dC, dI) classes [(h_t, .inr (5, [.int 0, .int 0, .null, .null, .ref q7, .ref q16, .int 0, .int 0])), (q7, .inl (cI, 64, .inl (fun _ => 0))), (q16, .inl (cI, 16448, .inl (fun _ => 0)))] H := hP
  have hD : va_D A [(h_t, .inr (5, [.int 0, .int 0, .null, .null, .ref q7, .ref q16, .int 0, .int 0])), (q7, .inl (cI, 64, .inl (fun _ => 0))), (q16, .inl (cI, 16448, .inl (fun _ => 0)))] := hD
  refine lv_aload_n hx hb d_WI_init_21 rfl (lv_at hl 0 rfl) ?_
  refine lv_aload_n hx hb d_WI_init_22 rfl (lv_at hl 1 rfl) ?_
  refine va_putF (D := (dC, dI)) (ci := 5) (v := .ref h_p1) (ty := .object "SuffixIndex$Library") (C := "SuffixIndex$Window") (T := F_WI) (N := 8) hx hb hw i_WI t_WI t_WI_ok n_WI hown hK hP hD hS 0 rfl rfl 2 (by decide) (hw _ m_224) (fun _ h9 => h9) rfl hin rfl (by decide +kernel) rfl rfl (Nat.le_of_ble_eq_true rfl) d_WI_init_23 (fun H locs hP hD hS => ?_)
  have hP : va_P (dC, dI) classes [(h_t, .inr (5, [.int 0, .int 0, .ref h_p1, .null, .ref q7, .ref q16, .int 0, .int 0])), (q7, .inl (cI, 64, .inl (fun _ => 0))), (q16, .inl (cI, 16448, .inl (fun _ => 0)))] H := hP
  have hD : va_D A [(h_t, .inr (5, [.int 0, .int 0, .ref h_p1, .null, .ref q7, .ref q16, .int 0, .int 0])), (q7, .inl (cI, 64, .inl (fun _ => 0))), (q16, .inl (cI, 16448, .inl (fun _ => 0)))] := hD
  refine lv_aload_n hx hb d_WI_init_26 rfl (lv_at hl 0 rfl) ?_
  refine lv_aload_n hx hb d_WI_init_27 rfl (lv_at hl 2 rfl) ?_
  refine va_putF (D := (dC, dI)) (ci := 5) (v := .ref h_p2) (ty := .object "SuffixIndex$SuffixOrder") (C := "SuffixIndex$Window") (T := F_WI) (N := 8) hx hb hw i_WI t_WI t_WI_ok n_WI hown hK hP hD hS 0 rfl rfl 3 (by decide) (hw _ m_225) (fun _ h9 => h9) rfl hin rfl (by decide +kernel) rfl rfl (Nat.le_of_ble_eq_true rfl) d_WI_init_28 (fun H locs hP hD hS => ?_)
  have hP : va_P (dC, dI) classes [(h_t, .inr (5, [.int 0, .int 0, .ref h_p1, .ref h_p2, .ref q7, .ref q16, .int 0, .int 0])), (q7, .inl (cI, 64, .inl (fun _ => 0))), (q16, .inl (cI, 16448, .inl (fun _ => 0)))] H := hP
  have hD : va_D A [(h_t, .inr (5, [.int 0, .int 0, .ref h_p1, .ref h_p2, .ref q7, .ref q16, .int 0, .int 0])), (q7, .inl (cI, 64, .inl (fun _ => 0))), (q16, .inl (cI, 16448, .inl (fun _ => 0)))] := hD
  have hP9 : va_P (dC, dI) classes [(h_t, .inr (5, [.int 0, .int 0, .ref h_p1, .ref h_p2, .ref q7, .ref q16, .int 0, .int 0])), (q7, .inl (cI, 64, .inl (fun _ => 0))), (q16, .inl (cI, 16448, .inl (fun _ => 0)))] H := P_sub hP [0, 1, 2] rfl
  have hD9 : va_D A [(h_t, .inr (5, [.int 0, .int 0, .ref h_p1, .ref h_p2, .ref q7, .ref q16, .int 0, .int 0])), (q7, .inl (cI, 64, .inl (fun _ => 0))), (q16, .inl (cI, 16448, .inl (fun _ => 0)))] := hD.sub [0, 1, 2] rfl rfl
  exact W.vret hx hb hr (fun t ht hW => ⟨⟨(q7, q16), rfl, trivial, by rw [ht]; exact hP9, va_K.moved hW.alike hK, hD9⟩, hS.F ht⟩) hS.2.2 d_WI_init_31
set_option maxHeartbeats 4000000 in
set_option maxRecDepth 100000 in
theorem c_PB_init (l : Launch) (dC : Nat → ClassId) (dI : Nat → Nat → Nat) (cI cJ cB cZ : ClassId) (h_t : Nat) (h_p1 : Nat) (h_p2 : Nat) (sz : Nat) : Met l y_PB_init (Cond.code y_PB_init b_PB_init 3 none :: WT) rm_PB_init (cPre (dC, dI) classes (TYS cI cJ cB cZ) [(h_t, .inr (6, [.null, .null, .null, .null, .int 0, .int 0]))] sz [.ref h_t, .ref h_p1, .ref h_p2]) (va_Qv (fun _ : Nat × Nat => True) (fun u t => cAft (dC, dI) classes (TYS cI cJ cB cZ) (va_A [(h_t, .inr (6, [.null, .null, .null, .null, .int 0, .int 0]))] sz) [(h_t, .inr (6, [.ref u.1, .ref u.2, .ref h_p1, .ref h_p2, .int 0, .int 0])), (u.1, .inl (cJ, 16448, .inr (.inl (fun _ => 0)))), (u.2, .inl (cI, 64, .inl (fun _ => 0)))] t) (va_A [(h_t, .inr (6, [.null, .null, .null, .null, .int 0, .int 0]))] sz)) 2 16512 (va_A [(h_t, .inr (6, [.null, .null, .null, .null, .int 0, .int 0]))] sz) := by
  refine Met.ofW (cc := b_PB_init) (maxL := 3) (ret := none) (by decide) rfl ?_
  intro p e s m args below meth c s₁ B hml hq
  obtain ⟨rfl, hsz, hP, hK, hD0⟩ := hq
  have hts := atoms_spec (ws := Cond.code y_PB_init b_PB_init 3 none :: WT) B.pre
  have hw : ∀ w ∈ WT, w.before ([.ref h_t, .ref h_p1, .ref h_p2] : List Value).toArray s = true := fun w h => hts w (List.mem_cons_of_mem _ h)
  have hx := B.exec
  have hb := B.bytes
  have hr := B.returns
  have hlk := B.notSynchronized
  have hin : meth.name = "<init>" := (name_of_methodNamed B.named B.method).1
  have hown : s.vm.findClass "SuffixIndex$PhraseBook" = some m.cls := findClass_of_methodNamed B.named
  have F : CallFix p m c b_PB_init 3 s ([.ref h_t, .ref h_p1, .ref h_p2] : List Value).toArray WT "SuffixIndex$PhraseBook" := ⟨hx, hb, hml, hown, hw⟩
  subst hsz
  have hD := hD0.self (sz := s.heap.size)
  generalize hAe : va_A [(h_t, .inr (6, [.null, .null, .null, .null, .int 0, .int 0]))] s.heap.size = A at hD ⊢
  have hA : ∀ q : Nat, s.heap.size ≤ q → A q := fun q h => by rw [← hAe]; exact Or.inr h
  have hS : va_S A s.heap s.heap [] := va_S.rf
  have hl := lv_entry ([.ref h_t, .ref h_p1, .ref h_p2]) (n := 3) (Nat.le_of_ble_eq_true rfl)
  rw [lg_entry_eq]
  generalize (lg_sl ([.ref h_t, .ref h_p1, .ref h_p2]) ++ List.replicate (3 - (lg_sl ([.ref h_t, .ref h_p1, .ref h_p2])).length) Slot.unset).toArray = ls at hl ⊢
  have hl : lv_has ls 3 [(0, .ref h_t), (1, .ref h_p1), (2, .ref h_p2)] := hl
  show W p l e rm_PB_init s m _ below meth c s.heap [] 0 0 _ _
  have hP : va_P (dC, dI) classes [(h_t, .inr (6, [.null, .null, .null, .null, .int 0, .int 0]))] s.heap := hP
  obtain ⟨H, hHe⟩ : ∃ H, H = s.heap := ⟨_, rfl⟩
  have hS : va_S A s.heap H [] := by rw [hHe]; exact hS
  rw [← hHe] at hP
  suffices hgoal : W p l e rm_PB_init s m ([.ref h_t, .ref h_p1, .ref h_p2] : List Value).toArray below meth c H [] 0 0 (MQ below (va_Qv (fun _ : Nat × Nat => True) (fun u t => cAft (dC, dI) classes (TYS cI cJ cB cZ) A [(h_t, .inr (6, [.ref u.1, .ref u.2, .ref h_p1, .ref h_p2, .int 0, .int 0])), (u.1, .inl (cJ, 16448, .inr (.inl (fun _ => 0)))), (u.2, .inl (cI, 64, .inl (fun _ => 0)))] t) A) ([.ref h_t, .ref h_p1, .ref h_p2] : List Value).toArray s 2 16512 A) (F0 m 0 ls []) by rw [hHe] at hgoal; exact hgoal
  refine lv_aload_n hx hb d_PB_init_0 rfl (lv_at hl 0 rfl) ?_
  refine W.objInit hx hb hown (hw _ m_252) (hw _ m_35) (hw _ m_36) rfl (by rw [hml]; exact hl.1) rfl d_PB_init_1 (Nat.le_of_ble_eq_true rfl) (Nat.le_of_ble_eq_true rfl) ?_
  refine W.eq (g2 := F0 m 4 ls []) rfl ?_
  refine lv_aload_n hx hb d_PB_init_4 rfl (lv_at hl 0 rfl) ?_
  refine lv_sipush (v := nI 16448) hx hb d_PB_init_5 (by decide) ?_
  refine nw_a (atype := .long) (ty := .long) (a0 := (16448, .inr (.inl (fun _ => 0)))) hx hb (hw _ m_117) rfl hK hP hD hS hA 1 rfl (fun _ h => h) (fun _ => rfl) (nI_pos (by decide)) (nI_clamp (by decide)) (by decide) (by decide) (by decide) d_PB_init_8 (fun q8 H hP hD hS => ?_)
  have hP : va_P (dC, dI) classes [(h_t, .inr (6, [.null, .null, .null, .null, .int 0, .int 0])), (q8, .inl (cJ, 16448, .inr (.inl (fun _ => 0))))] H := hP
  have hD : va_D A [(h_t, .inr (6, [.null, .null, .null, .null, .int 0, .int 0])), (q8, .inl (cJ, 16448, .inr (.inl (fun _ => 0))))] := hD
  refine W.widen (k := 1) (n := 16448) (by omega) (by omega) ?_
  refine va_putF (D := (dC, dI)) (ci := 6) (v := .ref q8) (ty := .array .long) (C := "SuffixIndex$PhraseBook") (T := F_PB) (N := 6) hx hb hw i_PB t_PB t_PB_ok n_PB hown hK hP hD hS 0 rfl rfl 0 (by decide) (hw _ m_253) (fun _ h9 => h9) rfl hin rfl (by decide +kernel) rfl rfl (Nat.le_of_ble_eq_true rfl) d_PB_init_10 (fun H locs hP hD hS => ?_)
  have hP : va_P (dC, dI) classes [(h_t, .inr (6, [.ref q8, .null, .null, .null, .int 0, .int 0])), (q8, .inl (cJ, 16448, .inr (.inl (fun _ => 0))))] H := hP
  have hD : va_D A [(h_t, .inr (6, [.ref q8, .null, .null, .null, .int 0, .int 0])), (q8, .inl (cJ, 16448, .inr (.inl (fun _ => 0))))] := hD
  refine lv_aload_n hx hb d_PB_init_13 rfl (lv_at hl 0 rfl) ?_
  refine lv_bipush (v := nI 64) hx hb d_PB_init_14 (by decide) ?_
  refine nw_a (atype := .int) (ty := .int) (a0 := (64, .inl (fun _ => 0))) hx hb (hw _ m_58) rfl hK hP hD hS hA 0 rfl (fun _ h => h) (fun _ => rfl) (nI_pos (by decide)) (nI_clamp (by decide)) (by decide) (by decide) (by decide) d_PB_init_16 (fun q16 H hP hD hS => ?_)
  have hP : va_P (dC, dI) classes [(h_t, .inr (6, [.ref q8, .null, .null, .null, .int 0, .int 0])), (q8, .inl (cJ, 16448, .inr (.inl (fun _ => 0)))), (q16, .inl (cI, 64, .inl (fun _ => 0)))] H := hP
  have hD : va_D A [(h_t, .inr (6, [.ref q8, .null, .null, .null, .int 0, .int 0])), (q8, .inl (cJ, 16448, .inr (.inl (fun _ => 0)))), (q16, .inl (cI, 64, .inl (fun _ => 0)))] := hD
  refine W.widen (k := 2) (n := 16512) (by omega) (by omega) ?_
  refine va_putF (D := (dC, dI)) (ci := 6) (v := .ref q16) (ty := .array .int) (C := "SuffixIndex$PhraseBook") (T := F_PB) (N := 6) hx hb hw i_PB t_PB t_PB_ok n_PB hown hK hP hD hS 0 rfl rfl 1 (by decide) (hw _ m_255) (fun _ h9 => h9) rfl hin rfl (by decide +kernel) rfl rfl (Nat.le_of_ble_eq_true rfl) d_PB_init_18 (fun H locs hP hD hS => ?_)
  have hP : va_P (dC, dI) classes [(h_t, .inr (6, [.ref q8, .ref q16, .null, .null, .int 0, .int 0])), (q8, .inl (cJ, 16448, .inr (.inl (fun _ => 0)))), (q16, .inl (cI, 64, .inl (fun _ => 0)))] H := hP
  have hD : va_D A [(h_t, .inr (6, [.ref q8, .ref q16, .null, .null, .int 0, .int 0])), (q8, .inl (cJ, 16448, .inr (.inl (fun _ => 0)))), (q16, .inl (cI, 64, .inl (fun _ => 0)))] := hD
  refine lv_aload_n hx hb d_PB_init_21 rfl (lv_at hl 0 rfl) ?_
  refine lv_aload_n hx hb d_PB_init_22 rfl (lv_at hl 1 rfl) ?_
  refine va_putF (D := (dC, dI)) (ci := 6) (v := .ref h_p1) (ty := .object "SuffixIndex$Library") (C := "SuffixIndex$PhraseBook") (T := F_PB) (N := 6) hx hb hw i_PB t_PB t_PB_ok n_PB hown hK hP hD hS 0 rfl rfl 2 (by decide) (hw _ m_256) (fun _ h9 => h9) rfl hin rfl (by decide +kernel) rfl rfl (Nat.le_of_ble_eq_true rfl) d_PB_init_23 (fun H locs hP hD hS => ?_)
  have hP : va_P (dC, dI) classes [(h_t, .inr (6, [.ref q8, .ref q16, .ref h_p1, .null, .int 0, .int 0])), (q8, .inl (cJ, 16448, .inr (.inl (fun _ => 0)))), (q16, .inl (cI, 64, .inl (fun _ => 0)))] H := hP
  have hD : va_D A [(h_t, .inr (6, [.ref q8, .ref q16, .ref h_p1, .null, .int 0, .int 0])), (q8, .inl (cJ, 16448, .inr (.inl (fun _ => 0)))), (q16, .inl (cI, 64, .inl (fun _ => 0)))] := hD
  refine lv_aload_n hx hb d_PB_init_26 rfl (lv_at hl 0 rfl) ?_
  refine lv_aload_n hx hb d_PB_init_27 rfl (lv_at hl 2 rfl) ?_
  refine va_putF (D := (dC, dI)) (ci := 6) (v := .ref h_p2) (ty := .object "SuffixIndex$SuffixOrder") (C := "SuffixIndex$PhraseBook") (T := F_PB) (N := 6) hx hb hw i_PB t_PB t_PB_ok n_PB hown hK hP hD hS 0 rfl rfl 3 (by decide) (hw _ m_257) (fun _ h9 => h9) rfl hin rfl (by decide +kernel) rfl rfl (Nat.le_of_ble_eq_true rfl) d_PB_init_28 (fun H locs hP hD hS => ?_)
  have hP : va_P (dC, dI) classes [(h_t, .inr (6, [.ref q8, .ref q16, .ref h_p1, .ref h_p2, .int 0, .int 0])), (q8, .inl (cJ, 16448, .inr (.inl (fun _ => 0)))), (q16, .inl (cI, 64, .inl (fun _ => 0)))] H := hP
  have hD : va_D A [(h_t, .inr (6, [.ref q8, .ref q16, .ref h_p1, .ref h_p2, .int 0, .int 0])), (q8, .inl (cJ, 16448, .inr (.inl (fun _ => 0)))), (q16, .inl (cI, 64, .inl (fun _ => 0)))] := hD
  have hP9 : va_P (dC, dI) classes [(h_t, .inr (6, [.ref q8, .ref q16, .ref h_p1, .ref h_p2, .int 0, .int 0])), (q8, .inl (cJ, 16448, .inr (.inl (fun _ => 0)))), (q16, .inl (cI, 64, .inl (fun _ => 0)))] H := P_sub hP [0, 1, 2] rfl
  have hD9 : va_D A [(h_t, .inr (6, [.ref q8, .ref q16, .ref h_p1, .ref h_p2, .int 0, .int 0])), (q8, .inl (cJ, 16448, .inr (.inl (fun _ => 0)))), (q16, .inl (cI, 64, .inl (fun _ => 0)))] := hD.sub [0, 1, 2] rfl rfl
  exact W.vret hx hb hr (fun t ht hW => ⟨⟨(q8, q16), rfl, trivial, by rw [ht]; exact hP9, va_K.moved hW.alike hK, hD9⟩, hS.F ht⟩) hS.2.2 d_PB_init_31
set_option maxHeartbeats 4000000 in
set_option maxRecDepth 100000 in
theorem c_SI_init (l : Launch) (dC : Nat → ClassId) (dI : Nat → Nat → Nat) (cI cJ cB cZ : ClassId) (h_t : Nat) (sz : Nat) : Met l y_SI_init (Cond.code y_SI_init b_SI_init 1 none :: WT) rm_SI_init (cPreN (dC, dI) classes (TYS cI cJ cB cZ) [(h_t, .inr (7, [.null, .null, .null, .null, .null, .null, .null]))] sz [.ref h_t]) (va_Qv (fun _ : Nat × Nat × Nat × Nat × Nat × Nat × Nat × Nat × Nat × Nat × Nat × Nat × Nat × Nat × Nat × Nat × Nat × Nat × Nat × Nat × Nat × Nat × Nat × Nat × Nat × Nat × Nat × Nat × Nat × Nat => True) (fun u t => cAft (dC, dI) classes (TYS cI cJ cB cZ) (va_A [(h_t, .inr (7, [.null, .null, .null, .null, .null, .null, .null]))] sz) [(h_t, .inr (7, [.ref u.1, .ref u.2.2.1, .ref u.2.2.2.2.1, .ref u.2.2.2.2.2.2.2.2.1, .ref u.2.2.2.2.2.2.2.2.2.2.2.2.2.2.2.2.2.1, .ref u.2.2.2.2.2.2.2.2.2.2.2.2.2.2.2.2.2.2.2.2.2.2.2.2.1, .ref u.2.2.2.2.2.2.2.2.2.2.2.2.2.2.2.2.2.2.2.2.2.2.2.2.2.2.2.1])), (u.1, .inr (0, [.ref u.2.1, .int 0])), (u.2.1, .inl (cI, 16384, .inl (fun _ => 0))), (u.2.2.1, .inr (0, [.ref u.2.2.2.1, .int 0])), (u.2.2.2.1, .inl (cI, 16384, .inl (fun _ => 0))), (u.2.2.2.2.1, .inr (1, [.ref u.2.2.2.2.2.1, .ref u.2.2.2.2.2.2.1, .ref u.2.2.2.2.2.2.2.1, .int 0, .int 0])), (u.2.2.2.2.2.1, .inl (cI, 16448, .inl (fun _ => 0))), (u.2.2.2.2.2.2.1, .inl (cI, 16448, .inl (fun _ => 0))), (u.2.2.2.2.2.2.2.1, .inl (cI, 65, .inl (fun _ => 0))), (u.2.2.2.2.2.2.2.2.1, .inr (3, [.ref u.2.2.2.2.2.2.2.2.2.1, .ref u.2.2.2.2.2.2.2.2.2.2.1, .ref u.2.2.2.2.2.2.2.2.2.2.2.1, .ref u.2.2.2.2.2.2.2.2.2.2.2.2.1, .ref u.2.2.2.2.2.2.2.2.2.2.2.2.2.1, .ref u.2.2.2.2.1, .int 0, .int 0, .int 0, .int 0])), (u.2.2.2.2.2.2.2.2.2.1, .inl (cI, 16448, .inl (fun _ => 0))), (u.2.2.2.2.2.2.2.2.2.2.1, .inl (cI, 16448, .inl (fun _ => 0))), (u.2.2.2.2.2.2.2.2.2.2.2.1, .inl (cI, 16448, .inl (fun _ => 0))), (u.2.2.2.2.2.2.2.2.2.2.2.2.1, .inl (cJ, 16448, .inr (.inl (fun _ => 0)))), (u.2.2.2.2.2.2.2.2.2.2.2.2.2.1, .inr (2, [.ref u.2.2.2.2.2.2.2.2.2.2.2.2.2.2.1, .ref u.2.2.2.2.2.2.2.2.2.2.2.2.2.2.2.1, .ref u.2.2.2.2.2.2.2.2.2.2.2.2.2.2.2.2.1, .int 0])), (u.2.2.2.2.2.2.2.2.2.2.2.2.2.2.1, .inl (cI, 16448, .inl (fun _ => 0))), (u.2.2.2.2.2.2.2.2.2.2.2.2.2.2.2.1, .inl (cI, 16448, .inl (fun _ => 0))), (u.2.2.2.2.2.2.2.2.2.2.2.2.2.2.2.2.1, .inl (cI, 16448, .inl (fun _ => 0))), (u.2.2.2.2.2.2.2.2.2.2.2.2.2.2.2.2.2.1, .inr (4, [.ref u.2.2.2.2.2.2.2.2.2.2.2.2.2.2.2.2.2.2.1, .ref u.2.2.2.2.2.2.2.2.2.2.2.2.2.2.2.2.2.2.2.2.1, .int 0, .int 0, .ref u.2.2.2.2.2.2.2.2.2.2.2.2.2.2.2.2.2.2.2.2.2.1, .ref u.2.2.2.2.2.2.2.2.2.2.2.2.2.2.2.2.2.2.2.2.2.2.1, .ref u.2.2.2.2.2.2.2.2.2.2.2.2.2.2.2.2.2.2.2.2.2.2.2.1, .ref u.2.2.2.2.1, .ref u.2.2.2.2.2.2.2.2.1, .int 0, .int 0])), (u.2.2.2.2.2.2.2.2.2.2.2.2.2.2.2.2.2.2.1, .inr (0, [.ref u.2.2.2.2.2.2.2.2.2.2.2.2.2.2.2.2.2.2.2.1, .int 0])), (u.2.2.2.2.2.2.2.2.2.2.2.2.2.2.2.2.2.2.2.1, .inl (cI, 200, .inl (fun _ => 0))), (u.2.2.2.2.2.2.2.2.2.2.2.2.2.2.2.2.2.2.2.2.1, .inl (cI, 16384, .inl (fun _ => 0))), (u.2.2.2.2.2.2.2.2.2.2.2.2.2.2.2.2.2.2.2.2.2.1, .inl (cI, 4, .inl (fun _ => 0))), (u.2.2.2.2.2.2.2.2.2.2.2.2.2.2.2.2.2.2.2.2.2.2.1, .inl (cI, 4, .inl (fun _ => 0))), (u.2.2.2.2.2.2.2.2.2.2.2.2.2.2.2.2.2.2.2.2.2.2.2.1, .inl (cI, 64, .inl (fun _ => 0))), (u.2.2.2.2.2.2.2.2.2.2.2.2.2.2.2.2.2.2.2.2.2.2.2.2.1, .inr (5, [.int 0, .int 0, .ref u.2.2.2.2.1, .ref u.2.2.2.2.2.2.2.2.1, .ref u.2.2.2.2.2.2.2.2.2.2.2.2.2.2.2.2.2.2.2.2.2.2.2.2.2.1, .ref u.2.2.2.2.2.2.2.2.2.2.2.2.2.2.2.2.2.2.2.2.2.2.2.2.2.2.1, .int 0, .int 0])), (u.2.2.2.2.2.2.2.2.2.2.2.2.2.2.2.2.2.2.2.2.2.2.2.2.2.1, .inl (cI, 64, .inl (fun _ => 0))), (u.2.2.2.2.2.2.2.2.2.2.2.2.2.2.2.2.2.2.2.2.2.2.2.2.2.2.1, .inl (cI, 16448, .inl (fun _ => 0))), (u.2.2.2.2.2.2.2.2.2.2.2.2.2.2.2.2.2.2.2.2.2.2.2.2.2.2.2.1, .inr (6, [.ref u.2.2.2.2.2.2.2.2.2.2.2.2.2.2.2.2.2.2.2.2.2.2.2.2.2.2.2.2.1, .ref u.2.2.2.2.2.2.2.2.2.2.2.2.2.2.2.2.2.2.2.2.2.2.2.2.2.2.2.2.2, .ref u.2.2.2.2.1, .ref u.2.2.2.2.2.2.2.2.1, .int 0, .int 0])), (u.2.2.2.2.2.2.2.2.2.2.2.2.2.2.2.2.2.2.2.2.2.2.2.2.2.2.2.2.1, .inl (cJ, 16448, .inr (.inl (fun _ => 0)))), (u.2.2.2.2.2.2.2.2.2.2.2.2.2.2.2.2.2.2.2.2.2.2.2.2.2.2.2.2.2, .inl (cI, 64, .inl (fun _ => 0)))] t) (va_A [(h_t, .inr (7, [.null, .null, .null, .null, .null, .null, .null]))] sz)) 30 230595 (va_A [(h_t, .inr (7, [.null, .null, .null, .null, .null, .null, .null]))] sz) := by
  refine Met.ofW (cc := b_SI_init) (maxL := 1) (ret := none) (by decide) rfl ?_
  intro p e s m args below meth c s₁ B hml hq
  obtain ⟨rfl, hsz, hP, hK, hD0, hN⟩ := hq
  have hts := atoms_spec (ws := Cond.code y_SI_init b_SI_init 1 none :: WT) B.pre
  have hw : ∀ w ∈ WT, w.before ([.ref h_t] : List Value).toArray s = true := fun w h => hts w (List.mem_cons_of_mem _ h)
  have hx := B.exec
  have hb := B.bytes
  have hr := B.returns
  have hlk := B.notSynchronized
  have hin : meth.name = "<init>" := (name_of_methodNamed B.named B.method).1
  have hown : s.vm.findClass "SuffixIndex" = some m.cls := findClass_of_methodNamed B.named
  have F : CallFix p m c b_SI_init 1 s ([.ref h_t] : List Value).toArray WT "SuffixIndex" := ⟨hx, hb, hml, hown, hw⟩
  subst hsz
  have hD := hD0.self (sz := s.heap.size)
  generalize hAe : va_A [(h_t, .inr (7, [.null, .null, .null, .null, .null, .null, .null]))] s.heap.size = A at hD ⊢
  have hA : ∀ q : Nat, s.heap.size ≤ q → A q := fun q h => by rw [← hAe]; exact Or.inr h
  have hS : va_S A s.heap s.heap [] := va_S.rf
  have hl := lv_entry ([.ref h_t]) (n := 1) (Nat.le_of_ble_eq_true rfl)
  rw [lg_entry_eq]
  generalize (lg_sl ([.ref h_t]) ++ List.replicate (1 - (lg_sl ([.ref h_t])).length) Slot.unset).toArray = ls at hl ⊢
  have hl : lv_has ls 1 [(0, .ref h_t)] := hl
  show W p l e rm_SI_init s m _ below meth c s.heap [] 0 0 _ _
  have hP : va_P (dC, dI) classes [(h_t, .inr (7, [.null, .null, .null, .null, .null, .null, .null]))] s.heap := hP
  obtain ⟨H, hHe⟩ : ∃ H, H = s.heap := ⟨_, rfl⟩
  have hS : va_S A s.heap H [] := by rw [hHe]; exact hS
  rw [← hHe] at hP
  suffices hgoal : W p l e rm_SI_init s m ([.ref h_t] : List Value).toArray below meth c H [] 0 0 (MQ below (va_Qv (fun _ : Nat × Nat × Nat × Nat × Nat × Nat × Nat × Nat × Nat × Nat × Nat × Nat × Nat × Nat × Nat × Nat × Nat × Nat × Nat × Nat × Nat × Nat × Nat × Nat × Nat × Nat × Nat × Nat × Nat × Nat => True) (fun u t => cAft (dC, dI) classes (TYS cI cJ cB cZ) A [(h_t, .inr (7, [.ref u.1, .ref u.2.2.1, .ref u.2.2.2.2.1, .ref u.2.2.2.2.2.2.2.2.1, .ref u.2.2.2.2.2.2.2.2.2.2.2.2.2.2.2.2.2.1, .ref u.2.2.2.2.2.2.2.2.2.2.2.2.2.2.2.2.2.2.2.2.2.2.2.2.1, .ref u.2.2.2.2.2.2.2.2.2.2.2.2.2.2.2.2.2.2.2.2.2.2.2.2.2.2.2.1])), (u.1, .inr (0, [.ref u.2.1, .int 0])), (u.2.1, .inl (cI, 16384, .inl (fun _ => 0))), (u.2.2.1, .inr (0, [.ref u.2.2.2.1, .int 0])), (u.2.2.2.1, .inl (cI, 16384, .inl (fun _ => 0))), (u.2.2.2.2.1, .inr (1, [.ref u.2.2.2.2.2.1, .ref u.2.2.2.2.2.2.1, .ref u.2.2.2.2.2.2.2.1, .int 0, .int 0])), (u.2.2.2.2.2.1, .inl (cI, 16448, .inl (fun _ => 0))), (u.2.2.2.2.2.2.1, .inl (cI, 16448, .inl (fun _ => 0))), (u.2.2.2.2.2.2.2.1, .inl (cI, 65, .inl (fun _ => 0))), (u.2.2.2.2.2.2.2.2.1, .inr (3, [.ref u.2.2.2.2.2.2.2.2.2.1, .ref u.2.2.2.2.2.2.2.2.2.2.1, .ref u.2.2.2.2.2.2.2.2.2.2.2.1, .ref u.2.2.2.2.2.2.2.2.2.2.2.2.1, .ref u.2.2.2.2.2.2.2.2.2.2.2.2.2.1, .ref u.2.2.2.2.1, .int 0, .int 0, .int 0, .int 0])), (u.2.2.2.2.2.2.2.2.2.1, .inl (cI, 16448, .inl (fun _ => 0))), (u.2.2.2.2.2.2.2.2.2.2.1, .inl (cI, 16448, .inl (fun _ => 0))), (u.2.2.2.2.2.2.2.2.2.2.2.1, .inl (cI, 16448, .inl (fun _ => 0))), (u.2.2.2.2.2.2.2.2.2.2.2.2.1, .inl (cJ, 16448, .inr (.inl (fun _ => 0)))), (u.2.2.2.2.2.2.2.2.2.2.2.2.2.1, .inr (2, [.ref u.2.2.2.2.2.2.2.2.2.2.2.2.2.2.1, .ref u.2.2.2.2.2.2.2.2.2.2.2.2.2.2.2.1, .ref u.2.2.2.2.2.2.2.2.2.2.2.2.2.2.2.2.1, .int 0])), (u.2.2.2.2.2.2.2.2.2.2.2.2.2.2.1, .inl (cI, 16448, .inl (fun _ => 0))), (u.2.2.2.2.2.2.2.2.2.2.2.2.2.2.2.1, .inl (cI, 16448, .inl (fun _ => 0))), (u.2.2.2.2.2.2.2.2.2.2.2.2.2.2.2.2.1, .inl (cI, 16448, .inl (fun _ => 0))), (u.2.2.2.2.2.2.2.2.2.2.2.2.2.2.2.2.2.1, .inr (4, [.ref u.2.2.2.2.2.2.2.2.2.2.2.2.2.2.2.2.2.2.1, .ref u.2.2.2.2.2.2.2.2.2.2.2.2.2.2.2.2.2.2.2.2.1, .int 0, .int 0, .ref u.2.2.2.2.2.2.2.2.2.2.2.2.2.2.2.2.2.2.2.2.2.1, .ref u.2.2.2.2.2.2.2.2.2.2.2.2.2.2.2.2.2.2.2.2.2.2.1, .ref u.2.2.2.2.2.2.2.2.2.2.2.2.2.2.2.2.2.2.2.2.2.2.2.1, .ref u.2.2.2.2.1, .ref u.2.2.2.2.2.2.2.2.1, .int 0, .int 0])), (u.2.2.2.2.2.2.2.2.2.2.2.2.2.2.2.2.2.2.1, .inr (0, [.ref u.2.2.2.2.2.2.2.2.2.2.2.2.2.2.2.2.2.2.2.1, .int 0])), (u.2.2.2.2.2.2.2.2.2.2.2.2.2.2.2.2.2.2.2.1, .inl (cI, 200, .inl (fun _ => 0))), (u.2.2.2.2.2.2.2.2.2.2.2.2.2.2.2.2.2.2.2.2.1, .inl (cI, 16384, .inl (fun _ => 0))), (u.2.2.2.2.2.2.2.2.2.2.2.2.2.2.2.2.2.2.2.2.2.1, .inl (cI, 4, .inl (fun _ => 0))), (u.2.2.2.2.2.2.2.2.2.2.2.2.2.2.2.2.2.2.2.2.2.2.1, .inl (cI, 4, .inl (fun _ => 0))), (u.2.2.2.2.2.2.2.2.2.2.2.2.2.2.2.2.2.2.2.2.2.2.2.1, .inl (cI, 64, .inl (fun _ => 0))), (u.2.2.2.2.2.2.2.2.2.2.2.2.2.2.2.2.2.2.2.2.2.2.2.2.1, .inr (5, [.int 0, .int 0, .ref u.2.2.2.2.1, .ref u.2.2.2.2.2.2.2.2.1, .ref u.2.2.2.2.2.2.2.2.2.2.2.2.2.2.2.2.2.2.2.2.2.2.2.2.2.1, .ref u.2.2.2.2.2.2.2.2.2.2.2.2.2.2.2.2.2.2.2.2.2.2.2.2.2.2.1, .int 0, .int 0])), (u.2.2.2.2.2.2.2.2.2.2.2.2.2.2.2.2.2.2.2.2.2.2.2.2.2.1, .inl (cI, 64, .inl (fun _ => 0))), (u.2.2.2.2.2.2.2.2.2.2.2.2.2.2.2.2.2.2.2.2.2.2.2.2.2.2.1, .inl (cI, 16448, .inl (fun _ => 0))), (u.2.2.2.2.2.2.2.2.2.2.2.2.2.2.2.2.2.2.2.2.2.2.2.2.2.2.2.1, .inr (6, [.ref u.2.2.2.2.2.2.2.2.2.2.2.2.2.2.2.2.2.2.2.2.2.2.2.2.2.2.2.2.1, .ref u.2.2.2.2.2.2.2.2.2.2.2.2.2.2.2.2.2.2.2.2.2.2.2.2.2.2.2.2.2, .ref u.2.2.2.2.1, .ref u.2.2.2.2.2.2.2.2.1, .int 0, .int 0])), (u.2.2.2.2.2.2.2.2.2.2.2.2.2.2.2.2.2.2.2.2.2.2.2.2.2.2.2.2.1, .inl (cJ, 16448, .inr (.inl (fun _ => 0)))), (u.2.2.2.2.2.2.2.2.2.2.2.2.2.2.2.2.2.2.2.2.2.2.2.2.2.2.2.2.2, .inl (cI, 64, .inl (fun _ => 0)))] t) A) ([.ref h_t] : List Value).toArray s 30 230595 A) (F0 m 0 ls []) by rw [hHe] at hgoal; exact hgoal
  refine lv_aload_n hx hb d_SI_init_0 rfl (lv_at hl 0 rfl) ?_
  refine W.objInit hx hb hown (hw _ m_34) (hw _ m_35) (hw _ m_36) rfl (by rw [hml]; exact hl.1) rfl d_SI_init_1 (Nat.le_of_ble_eq_true rfl) (Nat.le_of_ble_eq_true rfl) ?_
  refine W.eq (g2 := F0 m 4 ls []) rfl ?_
  refine lv_aload_n hx hb d_SI_init_4 rfl (lv_at hl 0 rfl) ?_
  refine va_new (ci := 0) (fs := [.null, .int 0]) (C := "SuffixIndex$ByteRow") (T := F_BR) (N := 2) hx hb hw i_BR t_BR t_BR_ok hown (hw _ m_37) (hw _ m_38) (hw _ m_2) hK hP hD hS hA rfl (fun j hj => by rcases (show j = 0 ∨ j = 1 by omega) with rfl | rfl <;> rfl) (by decide) (by decide) d_SI_init_5 (fun q5 H hP hD hS => ?_)
  have hP : va_P (dC, dI) classes [(h_t, .inr (7, [.null, .null, .null, .null, .null, .null, .null])), (q5, .inr (0, [.null, .int 0]))] H := hP
  have hD : va_D A [(h_t, .inr (7, [.null, .null, .null, .null, .null, .null, .null])), (q5, .inr (0, [.null, .int 0]))] := hD
  refine W.widen (k := 1) (n := 2) (by omega) (by omega) ?_
  refine lv_dup hx hb d_SI_init_8 rfl ?_
  refine lv_sipush (v := nI 16384) hx hb d_SI_init_9 (by decide) ?_
  refine cI_v (wr := [(h_t, .inr (7, [.null, .null, .null, .null, .null, .null, .null]))]) (rest := [.ref q5, .ref h_t]) (c_BR_init l dC dI cI cJ cB cZ q5 H.size 16384 (by decide)) F (cw_I (fun _ h => h) 1 hw m_39 m_40 m_2 m_41 rfl rfl rfl (by decide +kernel) ⟨by decide, by decide⟩) hK hP hD hS hA [1] [0] rfl rfl rfl rfl (by decide) rfl hl.1 rfl (Nat.le_of_ble_eq_true rfl) d_SI_init_12 ⟨by decide, by decide⟩ (fun u H locs hv hP hD hS => ?_)
  obtain ⟨u12_0, rfl⟩ : ∃ z, z = u := ⟨_, rfl⟩
  have hP : va_P (dC, dI) classes [(h_t, .inr (7, [.null, .null, .null, .null, .null, .null, .null])), (q5, .inr (0, [.ref u12_0, .int 0])), (u12_0, .inl (cI, 16384, .inl (fun _ => 0)))] H := hP
  have hD : va_D A [(h_t, .inr (7, [.null, .null, .null, .null, .null, .null, .null])), (q5, .inr (0, [.ref u12_0, .int 0])), (u12_0, .inl (cI, 16384, .inl (fun _ => 0)))] := hD
  refine W.widen (k := 2) (n := 16386) (by omega) (by omega) ?_
  refine va_putF (D := (dC, dI)) (ci := 7) (v := .ref q5) (ty := .object "SuffixIndex$ByteRow") (C := "SuffixIndex") (T := F_SI) (N := 7) hx hb hw i_SI t_SI t_SI_ok n_SI hown hK hP hD hS 0 rfl rfl 0 (by decide) (hw _ m_273) (fun _ h9 => h9) rfl hin rfl (by decide +kernel) rfl rfl (Nat.le_of_ble_eq_true rfl) d_SI_init_15 (fun H locs hP hD hS => ?_)
  have hP : va_P (dC, dI) classes [(h_t, .inr (7, [.ref q5, .null, .null, .null, .null, .null, .null])), (q5, .inr (0, [.ref u12_0, .int 0])), (u12_0, .inl (cI, 16384, .inl (fun _ => 0)))] H := hP
  have hD : va_D A [(h_t, .inr (7, [.ref q5, .null, .null, .null, .null, .null, .null])), (q5, .inr (0, [.ref u12_0, .int 0])), (u12_0, .inl (cI, 16384, .inl (fun _ => 0)))] := hD
  refine lv_aload_n hx hb d_SI_init_18 rfl (lv_at hl 0 rfl) ?_
  refine va_new (ci := 0) (fs := [.null, .int 0]) (C := "SuffixIndex$ByteRow") (T := F_BR) (N := 2) hx hb hw i_BR t_BR t_BR_ok hown (hw _ m_37) (hw _ m_38) (hw _ m_2) hK hP hD hS hA rfl (fun j hj => by rcases (show j = 0 ∨ j = 1 by omega) with rfl | rfl <;> rfl) (by decide) (by decide) d_SI_init_19 (fun q19 H hP hD hS => ?_)
  have hP : va_P (dC, dI) classes [(h_t, .inr (7, [.ref q5, .null, .null, .null, .null, .null, .null])), (q5, .inr (0, [.ref u12_0, .int 0])), (u12_0, .inl (cI, 16384, .inl (fun _ => 0))), (q19, .inr (0, [.null, .int 0]))] H := hP
  have hD : va_D A [(h_t, .inr (7, [.ref q5, .null, .null, .null, .null, .null, .null])), (q5, .inr (0, [.ref u12_0, .int 0])), (u12_0, .inl (cI, 16384, .inl (fun _ => 0))), (q19, .inr (0, [.null, .int 0]))] := hD
  refine W.widen (k := 3) (n := 16388) (by omega) (by omega) ?_
  refine lv_dup hx hb d_SI_init_22 rfl ?_
  refine lv_sipush (v := nI 16384) hx hb d_SI_init_23 (by decide) ?_
  refine cI_v (wr := [(h_t, .inr (7, [.ref q5, .null, .null, .null, .null, .null, .null])), (q5, .inr (0, [.ref u12_0, .int 0])), (u12_0, .inl (cI, 16384, .inl (fun _ => 0)))]) (rest := [.ref q19, .ref h_t]) (c_BR_init l dC dI cI cJ cB cZ q19 H.size 16384 (by decide)) F (cw_I (fun _ h => h) 1 hw m_39 m_40 m_2 m_41 rfl rfl rfl (by decide +kernel) ⟨by decide, by decide⟩) hK hP hD hS hA [3] [0, 1, 2] rfl rfl rfl rfl (by decide) rfl hl.1 rfl (Nat.le_of_ble_eq_true rfl) d_SI_init_26 ⟨by decide, by decide⟩ (fun u H locs hv hP hD hS => ?_)
  obtain ⟨u26_0, rfl⟩ : ∃ z, z = u := ⟨_, rfl⟩
  have hP : va_P (dC, dI) classes [(h_t, .inr (7, [.ref q5, .null, .null, .null, .null, .null, .null])), (q5, .inr (0, [.ref u12_0, .int 0])), (u12_0, .inl (cI, 16384, .inl (fun _ => 0))), (q19, .inr (0, [.ref u26_0, .int 0])), (u26_0, .inl (cI, 16384, .inl (fun _ => 0)))] H := hP
  have hD : va_D A [(h_t, .inr (7, [.ref q5, .null, .null, .null, .null, .null, .null])), (q5, .inr (0, [.ref u12_0, .int 0])), (u12_0, .inl (cI, 16384, .inl (fun _ => 0))), (q19, .inr (0, [.ref u26_0, .int 0])), (u26_0, .inl (cI, 16384, .inl (fun _ => 0)))] := hD
  refine W.widen (k := 4) (n := 32772) (by omega) (by omega) ?_
  refine va_putF (D := (dC, dI)) (ci := 7) (v := .ref q19) (ty := .object "SuffixIndex$ByteRow") (C := "SuffixIndex") (T := F_SI) (N := 7) hx hb hw i_SI t_SI t_SI_ok n_SI hown hK hP hD hS 0 rfl rfl 1 (by decide) (hw _ m_274) (fun _ h9 => h9) rfl hin rfl (by decide +kernel) rfl rfl (Nat.le_of_ble_eq_true rfl) d_SI_init_29 (fun H locs hP hD hS => ?_)
  have hP : va_P (dC, dI) classes [(h_t, .inr (7, [.ref q5, .ref q19, .null, .null, .null, .null, .null])), (q5, .inr (0, [.ref u12_0, .int 0])), (u12_0, .inl (cI, 16384, .inl (fun _ => 0))), (q19, .inr (0, [.ref u26_0, .int 0])), (u26_0, .inl (cI, 16384, .inl (fun _ => 0)))] H := hP
  have hD : va_D A [(h_t, .inr (7, [.ref q5, .ref q19, .null, .null, .null, .null, .null])), (q5, .inr (0, [.ref u12_0, .int 0])), (u12_0, .inl (cI, 16384, .inl (fun _ => 0))), (q19, .inr (0, [.ref u26_0, .int 0])), (u26_0, .inl (cI, 16384, .inl (fun _ => 0)))] := hD
  refine lv_aload_n hx hb d_SI_init_32 rfl (lv_at hl 0 rfl) ?_
  refine va_new (ci := 1) (fs := [.null, .null, .null, .int 0, .int 0]) (C := "SuffixIndex$Library") (T := F_LB) (N := 5) hx hb hw i_LB t_LB t_LB_ok hown (hw _ m_59) (hw _ m_60) (hw _ m_3) hK hP hD hS hA rfl (fun j hj => by rcases (show j = 0 ∨ j = 1 ∨ j = 2 ∨ j = 3 ∨ j = 4 by omega) with rfl | rfl | rfl | rfl | rfl <;> rfl) (by decide) (by decide) d_SI_init_33 (fun q33 H hP hD hS => ?_)
  have hP : va_P (dC, dI) classes [(h_t, .inr (7, [.ref q5, .ref q19, .null, .null, .null, .null, .null])), (q5, .inr (0, [.ref u12_0, .int 0])), (u12_0, .inl (cI, 16384, .inl (fun _ => 0))), (q19, .inr (0, [.ref u26_0, .int 0])), (u26_0, .inl (cI, 16384, .inl (fun _ => 0))), (q33, .inr (1, [.null, .null, .null, .int 0, .int 0]))] H := hP
  have hD : va_D A [(h_t, .inr (7, [.ref q5, .ref q19, .null, .null, .null, .null, .null])), (q5, .inr (0, [.ref u12_0, .int 0])), (u12_0, .inl (cI, 16384, .inl (fun _ => 0))), (q19, .inr (0, [.ref u26_0, .int 0])), (u26_0, .inl (cI, 16384, .inl (fun _ => 0))), (q33, .inr (1, [.null, .null, .null, .int 0, .int 0]))] := hD
  refine W.widen (k := 5) (n := 32777) (by omega) (by omega) ?_
  refine lv_dup hx hb d_SI_init_36 rfl ?_
  refine cIN_v (wr := [(h_t, .inr (7, [.ref q5, .ref q19, .null, .null, .null, .null, .null])), (q5, .inr (0, [.ref u12_0, .int 0])), (u12_0, .inl (cI, 16384, .inl (fun _ => 0))), (q19, .inr (0, [.ref u26_0, .int 0])), (u26_0, .inl (cI, 16384, .inl (fun _ => 0)))]) (rest := [.ref q33, .ref h_t]) (c_LB_init l dC dI cI cJ cB cZ q33 H.size ) F (cw_IN (fun _ h => h) 0 hw hN.1 m_62 m_3 m_63 rfl rfl rfl (by decide +kernel) ⟨by decide, by decide⟩) hK hP hD hS hA [5] [0, 1, 2, 3, 4] rfl rfl rfl rfl (by decide) rfl hl.1 rfl (Nat.le_of_ble_eq_true rfl) d_SI_init_37 ⟨by decide, by decide⟩ (fun u H locs hv hP hD hS => ?_)
  obtain ⟨u37_0, u37_1, u37_2⟩ := u
  have hP : va_P (dC, dI) classes [(h_t, .inr (7, [.ref q5, .ref q19, .null, .null, .null, .null, .null])), (q5, .inr (0, [.ref u12_0, .int 0])), (u12_0, .inl (cI, 16384, .inl (fun _ => 0))), (q19, .inr (0, [.ref u26_0, .int 0])), (u26_0, .inl (cI, 16384, .inl (fun _ => 0))), (q33, .inr (1, [.ref u37_0, .ref u37_1, .ref u37_2, .int 0, .int 0])), (u37_0, .inl (cI, 16448, .inl (fun _ => 0))), (u37_1, .inl (cI, 16448, .inl (fun _ => 0))), (u37_2, .inl (cI, 65, .inl (fun _ => 0)))] H := hP
  have hD : va_D A [(h_t, .inr (7, [.ref q5, .ref q19, .null, .null, .null, .null, .null])), (q5, .inr (0, [.ref u12_0, .int 0])), (u12_0, .inl (cI, 16384, .inl (fun _ => 0))), (q19, .inr (0, [.ref u26_0, .int 0])), (u26_0, .inl (cI, 16384, .inl (fun _ => 0))), (q33, .inr (1, [.ref u37_0, .ref u37_1, .ref u37_2, .int 0, .int 0])), (u37_0, .inl (cI, 16448, .inl (fun _ => 0))), (u37_1, .inl (cI, 16448, .inl (fun _ => 0))), (u37_2, .inl (cI, 65, .inl (fun _ => 0)))] := hD
  refine W.widen (k := 8) (n := 65738) (by omega) (by omega) ?_
  refine va_putF (D := (dC, dI)) (ci := 7) (v := .ref q33) (ty := .object "SuffixIndex$Library") (C := "SuffixIndex") (T := F_SI) (N := 7) hx hb hw i_SI t_SI t_SI_ok n_SI hown hK hP hD hS 0 rfl rfl 2 (by decide) (hw _ m_275) (fun _ h9 => h9) rfl hin rfl (by decide +kernel) rfl rfl (Nat.le_of_ble_eq_true rfl) d_SI_init_40 (fun H locs hP hD hS => ?_)
  have hP : va_P (dC, dI) classes [(h_t, .inr (7, [.ref q5, .ref q19, .ref q33, .null, .null, .null, .null])), (q5, .inr (0, [.ref u12_0, .int 0])), (u12_0, .inl (cI, 16384, .inl (fun _ => 0))), (q19, .inr (0, [.ref u26_0, .int 0])), (u26_0, .inl (cI, 16384, .inl (fun _ => 0))), (q33, .inr (1, [.ref u37_0, .ref u37_1, .ref u37_2, .int 0, .int 0])), (u37_0, .inl (cI, 16448, .inl (fun _ => 0))), (u37_1, .inl (cI, 16448, .inl (fun _ => 0))), (u37_2, .inl (cI, 65, .inl (fun _ => 0)))] H := hP
  have hD : va_D A [(h_t, .inr (7, [.ref q5, .ref q19, .ref q33, .null, .null, .null, .null])), (q5, .inr (0, [.ref u12_0, .int 0])), (u12_0, .inl (cI, 16384, .inl (fun _ => 0))), (q19, .inr (0, [.ref u26_0, .int 0])), (u26_0, .inl (cI, 16384, .inl (fun _ => 0))), (q33, .inr (1, [.ref u37_0, .ref u37_1, .ref u37_2, .int 0, .int 0])), (u37_0, .inl (cI, 16448, .inl (fun _ => 0))), (u37_1, .inl (cI, 16448, .inl (fun _ => 0))), (u37_2, .inl (cI, 65, .inl (fun _ => 0)))] := hD
  refine lv_aload_n hx hb d_SI_init_43 rfl (lv_at hl 0 rfl) ?_
  refine va_new (ci := 3) (fs := [.null, .null, .null, .null, .null, .null, .int 0, .int 0, .int 0, .int 0]) (C := "SuffixIndex$SuffixOrder") (T := F_OR) (N := 10) hx hb hw i_OR t_OR t_OR_ok hown (hw _ m_92) (hw _ m_93) (hw _ m_4) hK hP hD hS hA rfl (fun j hj => by rcases (show j = 0 ∨ j = 1 ∨ j = 2 ∨ j = 3 ∨ j = 4 ∨ j = 5 ∨ j = 6 ∨ j = 7 ∨ j = 8 ∨ j = 9 by omega) with rfl | rfl | rfl | rfl | rfl | rfl | rfl | rfl | rfl | rfl <;> rfl) (by decide) (by decide) d_SI_init_44 (fun q44 H hP hD hS => ?_)
  have hP : va_P (dC, dI) classes [(h_t, .inr (7, [.ref q5, .ref q19, .ref q33, .null, .null, .null, .null])), (q5, .inr (0, [.ref u12_0, .int 0])), (u12_0, .inl (cI, 16384, .inl (fun _ => 0))), (q19, .inr (0, [.ref u26_0, .int 0])), (u26_0, .inl (cI, 16384, .inl (fun _ => 0))), (q33, .inr (1, [.ref u37_0, .ref u37_1, .ref u37_2, .int 0, .int 0])), (u37_0, .inl (cI, 16448, .inl (fun _ => 0))), (u37_1, .inl (cI, 16448, .inl (fun _ => 0))), (u37_2, .inl (cI, 65, .inl (fun _ => 0))), (q44, .inr (3, [.null, .null, .null, .null, .null, .null, .int 0, .int 0, .int 0, .int 0]))] H := hP
  have hD : va_D A [(h_t, .inr (7, [.ref q5, .ref q19, .ref q33, .null, .null, .null, .null])), (q5, .inr (0, [.ref u12_0, .int 0])), (u12_0, .inl (cI, 16384, .inl (fun _ => 0))), (q19, .inr (0, [.ref u26_0, .int 0])), (u26_0, .inl (cI, 16384, .inl (fun _ => 0))), (q33, .inr (1, [.ref u37_0, .ref u37_1, .ref u37_2, .int 0, .int 0])), (u37_0, .inl (cI, 16448, .inl (fun _ => 0))), (u37_1, .inl (cI, 16448, .inl (fun _ => 0))), (u37_2, .inl (cI, 65, .inl (fun _ => 0))), (q44, .inr (3, [.null, .null, .null, .null, .null, .null, .int 0, .int 0, .int 0, .int 0]))] := hD
  refine W.widen (k := 9) (n := 65748) (by omega) (by omega) ?_
  refine lv_dup hx hb d_SI_init_47 rfl ?_
  refine lv_aload_n hx hb d_SI_init_48 rfl (lv_at hl 0 rfl) ?_
  refine va_get (D := (dC, dI)) (ci := 7) (v := .ref q33) (C := "SuffixIndex") (T := F_SI) (N := 7) hx hb hw i_SI hown hK hP 0 rfl rfl 2 (by decide) (hw _ m_275) (fun _ h9 => h9) rfl d_SI_init_49 ?_
  refine cIM_v (wr := [(h_t, .inr (7, [.ref q5, .ref q19, .ref q33, .null, .null, .null, .null])), (q5, .inr (0, [.ref u12_0, .int 0])), (u12_0, .inl (cI, 16384, .inl (fun _ => 0))), (q19, .inr (0, [.ref u26_0, .int 0])), (u26_0, .inl (cI, 16384, .inl (fun _ => 0))), (q33, .inr (1, [.ref u37_0, .ref u37_1, .ref u37_2, .int 0, .int 0])), (u37_0, .inl (cI, 16448, .inl (fun _ => 0))), (u37_1, .inl (cI, 16448, .inl (fun _ => 0))), (u37_2, .inl (cI, 65, .inl (fun _ => 0)))]) (rest := [.ref q44, .ref h_t]) (c_OR_init l dC dI cI cJ cB cZ q44 q33 H.size ) F (cw_I (fun _ h => h) 1 hw m_94 m_95 m_4 m_96 rfl rfl rfl (by decide +kernel) ⟨by decide, by decide⟩) hN hK hP hD hS hA [9] [0, 1, 2, 3, 4, 5, 6, 7, 8] rfl rfl rfl rfl (by decide) rfl hl.1 rfl (Nat.le_of_ble_eq_true rfl) d_SI_init_52 ⟨by decide, by decide⟩ (fun u H locs hv hP hD hS => ?_)
  obtain ⟨u52_0, u52_1, u52_2, u52_3, u52_4, u52_5, u52_6, u52_7⟩ := u
  have hP : va_P (dC, dI) classes [(h_t, .inr (7, [.ref q5, .ref q19, .ref q33, .null, .null, .null, .null])), (q5, .inr (0, [.ref u12_0, .int 0])), (u12_0, .inl (cI, 16384, .inl (fun _ => 0))), (q19, .inr (0, [.ref u26_0, .int 0])), (u26_0, .inl (cI, 16384, .inl (fun _ => 0))), (q33, .inr (1, [.ref u37_0, .ref u37_1, .ref u37_2, .int 0, .int 0])), (u37_0, .inl (cI, 16448, .inl (fun _ => 0))), (u37_1, .inl (cI, 16448, .inl (fun _ => 0))), (u37_2, .inl (cI, 65, .inl (fun _ => 0))), (q44, .inr (3, [.ref u52_0, .ref u52_1, .ref u52_2, .ref u52_3, .ref u52_4, .ref q33, .int 0, .int 0, .int 0, .int 0])), (u52_0, .inl (cI, 16448, .inl (fun _ => 0))), (u52_1, .inl (cI, 16448, .inl (fun _ => 0))), (u52_2, .inl (cI, 16448, .inl (fun _ => 0))), (u52_3, .inl (cJ, 16448, .inr (.inl (fun _ => 0)))), (u52_4, .inr (2, [.ref u52_5, .ref u52_6, .ref u52_7, .int 0])), (u52_5, .inl (cI, 16448, .inl (fun _ => 0))), (u52_6, .inl (cI, 16448, .inl (fun _ => 0))), (u52_7, .inl (cI, 16448, .inl (fun _ => 0)))] H := hP
  have hD : va_D A [(h_t, .inr (7, [.ref q5, .ref q19, .ref q33, .null, .null, .null, .null])), (q5, .inr (0, [.ref u12_0, .int 0])), (u12_0, .inl (cI, 16384, .inl (fun _ => 0))), (q19, .inr (0, [.ref u26_0, .int 0])), (u26_0, .inl (cI, 16384, .inl (fun _ => 0))), (q33, .inr (1, [.ref u37_0, .ref u37_1, .ref u37_2, .int 0, .int 0])), (u37_0, .inl (cI, 16448, .inl (fun _ => 0))), (u37_1, .inl (cI, 16448, .inl (fun _ => 0))), (u37_2, .inl (cI, 65, .inl (fun _ => 0))), (q44, .inr (3, [.ref u52_0, .ref u52_1, .ref u52_2, .ref u52_3, .ref u52_4, .ref q33, .int 0, .int 0, .int 0, .int 0])), (u52_0, .inl (cI, 16448, .inl (fun _ => 0))), (u52_1, .inl (cI, 16448, .inl (fun _ => 0))), (u52_2, .inl (cI, 16448, .inl (fun _ => 0))), (u52_3, .inl (cJ, 16448, .inr (.inl (fun _ => 0)))), (u52_4, .inr (2, [.ref u52_5, .ref u52_6, .ref u52_7, .int 0])), (u52_5, .inl (cI, 16448, .inl (fun _ => 0))), (u52_6, .inl (cI, 16448, .inl (fun _ => 0))), (u52_7, .inl (cI, 16448, .inl (fun _ => 0)))] := hD
  refine W.widen (k := 17) (n := 180888) (by omega) (by omega) ?_
  refine va_putF (D := (dC, dI)) (ci := 7) (v := .ref q44) (ty := .object "SuffixIndex$SuffixOrder") (C := "SuffixIndex") (T := F_SI) (N := 7) hx hb hw i_SI t_SI t_SI_ok n_SI hown hK hP hD hS 0 rfl rfl 3 (by decide) (hw _ m_276) (fun _ h9 => h9) rfl hin rfl (by decide +kernel) rfl rfl (Nat.le_of_ble_eq_true rfl) d_SI_init_55 (fun H locs hP hD hS => ?_)
  have hP : va_P (dC, dI) classes [(h_t, .inr (7, [.ref q5, .ref q19, .ref q33, .ref q44, .null, .null, .null])), (q5, .inr (0, [.ref u12_0, .int 0])), (u12_0, .inl (cI, 16384, .inl (fun _ => 0))), (q19, .inr (0, [.ref u26_0, .int 0])), (u26_0, .inl (cI, 16384, .inl (fun _ => 0))), (q33, .inr (1, [.ref u37_0, .ref u37_1, .ref u37_2, .int 0, .int 0])), (u37_0, .inl (cI, 16448, .inl (fun _ => 0))), (u37_1, .inl (cI, 16448, .inl (fun _ => 0))), (u37_2, .inl (cI, 65, .inl (fun _ => 0))), (q44, .inr (3, [.ref u52_0, .ref u52_1, .ref u52_2, .ref u52_3, .ref u52_4, .ref q33, .int 0, .int 0, .int 0, .int 0])), (u52_0, .inl (cI, 16448, .inl (fun _ => 0))), (u52_1, .inl (cI, 16448, .inl (fun _ => 0))), (u52_2, .inl (cI, 16448, .inl (fun _ => 0))), (u52_3, .inl (cJ, 16448, .inr (.inl (fun _ => 0)))), (u52_4, .inr (2, [.ref u52_5, .ref u52_6, .ref u52_7, .int 0])), (u52_5, .inl (cI, 16448, .inl (fun _ => 0))), (u52_6, .inl (cI, 16448, .inl (fun _ => 0))), (u52_7, .inl (cI, 16448, .inl (fun _ => 0)))] H := hP
  have hD : va_D A [(h_t, .inr (7, [.ref q5, .ref q19, .ref q33, .ref q44, .null, .null, .null])), (q5, .inr (0, [.ref u12_0, .int 0])), (u12_0, .inl (cI, 16384, .inl (fun _ => 0))), (q19, .inr (0, [.ref u26_0, .int 0])), (u26_0, .inl (cI, 16384, .inl (fun _ => 0))), (q33, .inr (1, [.ref u37_0, .ref u37_1, .ref u37_2, .int 0, .int 0])), (u37_0, .inl (cI, 16448, .inl (fun _ => 0))), (u37_1, .inl (cI, 16448, .inl (fun _ => 0))), (u37_2, .inl (cI, 65, .inl (fun _ => 0))), (q44, .inr (3, [.ref u52_0, .ref u52_1, .ref u52_2, .ref u52_3, .ref u52_4, .ref q33, .int 0, .int 0, .int 0, .int 0])), (u52_0, .inl (cI, 16448, .inl (fun _ => 0))), (u52_1, .inl (cI, 16448, .inl (fun _ => 0))), (u52_2, .inl (cI, 16448, .inl (fun _ => 0))), (u52_3, .inl (cJ, 16448, .inr (.inl (fun _ => 0)))), (u52_4, .inr (2, [.ref u52_5, .ref u52_6, .ref u52_7, .int 0])), (u52_5, .inl (cI, 16448, .inl (fun _ => 0))), (u52_6, .inl (cI, 16448, .inl (fun _ => 0))), (u52_7, .inl (cI, 16448, .inl (fun _ => 0)))] := hD
  refine lv_aload_n hx hb d_SI_init_58 rfl (lv_at hl 0 rfl) ?_
  refine va_new (ci := 4) (fs := [.null, .null, .int 0, .int 0, .null, .null, .null, .null, .null, .int 0, .int 0]) (C := "SuffixIndex$Search") (T := F_SE) (N := 11) hx hb hw i_SE t_SE t_SE_ok hown (hw _ m_166) (hw _ m_167) (hw _ m_6) hK hP hD hS hA rfl (fun j hj => by rcases (show j = 0 ∨ j = 1 ∨ j = 2 ∨ j = 3 ∨ j = 4 ∨ j = 5 ∨ j = 6 ∨ j = 7 ∨ j = 8 ∨ j = 9 ∨ j = 10 by omega) with rfl | rfl | rfl | rfl | rfl | rfl | rfl | rfl | rfl | rfl | rfl <;> rfl) (by decide) (by decide) d_SI_init_59 (fun q59 H hP hD hS => ?_)
  have hP : va_P (dC, dI) classes [(h_t, .inr (7, [.ref q5, .ref q19, .ref q33, .ref q44, .null, .null, .null])), (q5, .inr (0, [.ref u12_0, .int 0])), (u12_0, .inl (cI, 16384, .inl (fun _ => 0))), (q19, .inr (0, [.ref u26_0, .int 0])), (u26_0, .inl (cI, 16384, .inl (fun _ => 0))), (q33, .inr (1, [.ref u37_0, .ref u37_1, .ref u37_2, .int 0, .int 0])), (u37_0, .inl (cI, 16448, .inl (fun _ => 0))), (u37_1, .inl (cI, 16448, .inl (fun _ => 0))), (u37_2, .inl (cI, 65, .inl (fun _ => 0))), (q44, .inr (3, [.ref u52_0, .ref u52_1, .ref u52_2, .ref u52_3, .ref u52_4, .ref q33, .int 0, .int 0, .int 0, .int 0])), (u52_0, .inl (cI, 16448, .inl (fun _ => 0))), (u52_1, .inl (cI, 16448, .inl (fun _ => 0))), (u52_2, .inl (cI, 16448, .inl (fun _ => 0))), (u52_3, .inl (cJ, 16448, .inr (.inl (fun _ => 0)))), (u52_4, .inr (2, [.ref u52_5, .ref u52_6, .ref u52_7, .int 0])), (u52_5, .inl (cI, 16448, .inl (fun _ => 0))), (u52_6, .inl (cI, 16448, .inl (fun _ => 0))), (u52_7, .inl (cI, 16448, .inl (fun _ => 0))), (q59, .inr (4, [.null, .null, .int 0, .int 0, .null, .null, .null, .null, .null, .int 0, .int 0]))] H := hP
  have hD : va_D A [(h_t, .inr (7, [.ref q5, .ref q19, .ref q33, .ref q44, .null, .null, .null])), (q5, .inr (0, [.ref u12_0, .int 0])), (u12_0, .inl (cI, 16384, .inl (fun _ => 0))), (q19, .inr (0, [.ref u26_0, .int 0])), (u26_0, .inl (cI, 16384, .inl (fun _ => 0))), (q33, .inr (1, [.ref u37_0, .ref u37_1, .ref u37_2, .int 0, .int 0])), (u37_0, .inl (cI, 16448, .inl (fun _ => 0))), (u37_1, .inl (cI, 16448, .inl (fun _ => 0))), (u37_2, .inl (cI, 65, .inl (fun _ => 0))), (q44, .inr (3, [.ref u52_0, .ref u52_1, .ref u52_2, .ref u52_3, .ref u52_4, .ref q33, .int 0, .int 0, .int 0, .int 0])), (u52_0, .inl (cI, 16448, .inl (fun _ => 0))), (u52_1, .inl (cI, 16448, .inl (fun _ => 0))), (u52_2, .inl (cI, 16448, .inl (fun _ => 0))), (u52_3, .inl (cJ, 16448, .inr (.inl (fun _ => 0)))), (u52_4, .inr (2, [.ref u52_5, .ref u52_6, .ref u52_7, .int 0])), (u52_5, .inl (cI, 16448, .inl (fun _ => 0))), (u52_6, .inl (cI, 16448, .inl (fun _ => 0))), (u52_7, .inl (cI, 16448, .inl (fun _ => 0))), (q59, .inr (4, [.null, .null, .int 0, .int 0, .null, .null, .null, .null, .null, .int 0, .int 0]))] := hD
  refine W.widen (k := 18) (n := 180899) (by omega) (by omega) ?_
  refine lv_dup hx hb d_SI_init_62 rfl ?_
  refine lv_aload_n hx hb d_SI_init_63 rfl (lv_at hl 0 rfl) ?_
  refine va_get (D := (dC, dI)) (ci := 7) (v := .ref q33) (C := "SuffixIndex") (T := F_SI) (N := 7) hx hb hw i_SI hown hK hP 0 rfl rfl 2 (by decide) (hw _ m_275) (fun _ h9 => h9) rfl d_SI_init_64 ?_
  refine lv_aload_n hx hb d_SI_init_67 rfl (lv_at hl 0 rfl) ?_
  refine va_get (D := (dC, dI)) (ci := 7) (v := .ref q44) (C := "SuffixIndex") (T := F_SI) (N := 7) hx hb hw i_SI hown hK hP 0 rfl rfl 3 (by decide) (hw _ m_276) (fun _ h9 => h9) rfl d_SI_init_68 ?_
  refine cI_v (wr := [(h_t, .inr (7, [.ref q5, .ref q19, .ref q33, .ref q44, .null, .null, .null])), (q5, .inr (0, [.ref u12_0, .int 0])), (u12_0, .inl (cI, 16384, .inl (fun _ => 0))), (q19, .inr (0, [.ref u26_0, .int 0])), (u26_0, .inl (cI, 16384, .inl (fun _ => 0))), (q33, .inr (1, [.ref u37_0, .ref u37_1, .ref u37_2, .int 0, .int 0])), (u37_0, .inl (cI, 16448, .inl (fun _ => 0))), (u37_1, .inl (cI, 16448, .inl (fun _ => 0))), (u37_2, .inl (cI, 65, .inl (fun _ => 0))), (q44, .inr (3, [.ref u52_0, .ref u52_1, .ref u52_2, .ref u52_3, .ref u52_4, .ref q33, .int 0, .int 0, .int 0, .int 0])), (u52_0, .inl (cI, 16448, .inl (fun _ => 0))), (u52_1, .inl (cI, 16448, .inl (fun _ => 0))), (u52_2, .inl (cI, 16448, .inl (fun _ => 0))), (u52_3, .inl (cJ, 16448, .inr (.inl (fun _ => 0)))), (u52_4, .inr (2, [.ref u52_5, .ref u52_6, .ref u52_7, .int 0])), (u52_5, .inl (cI, 16448, .inl (fun _ => 0))), (u52_6, .inl (cI, 16448, .inl (fun _ => 0))), (u52_7, .inl (cI, 16448, .inl (fun _ => 0)))]) (rest := [.ref q59, .ref h_t]) (c_SE_init l dC dI cI cJ cB cZ q59 q33 q44 H.size ) F (cw_I (fun _ h => h) 2 hw m_168 m_169 m_6 m_170 rfl rfl rfl (by decide +kernel) ⟨by decide, by decide⟩) hK hP hD hS hA [18] [0, 1, 2, 3, 4, 5, 6, 7, 8, 9, 10, 11, 12, 13, 14, 15, 16, 17] rfl rfl rfl rfl (by decide) rfl hl.1 rfl (Nat.le_of_ble_eq_true rfl) d_SI_init_71 ⟨by decide, by decide⟩ (fun u H locs hv hP hD hS => ?_)
  obtain ⟨u71_0, u71_1, u71_2, u71_3, u71_4, u71_5⟩ := u
  have hP : va_P (dC, dI) classes [(h_t, .inr (7, [.ref q5, .ref q19, .ref q33, .ref q44, .null, .null, .null])), (q5, .inr (0, [.ref u12_0, .int 0])), (u12_0, .inl (cI, 16384, .inl (fun _ => 0))), (q19, .inr (0, [.ref u26_0, .int 0])), (u26_0, .inl (cI, 16384, .inl (fun _ => 0))), (q33, .inr (1, [.ref u37_0, .ref u37_1, .ref u37_2, .int 0, .int 0])), (u37_0, .inl (cI, 16448, .inl (fun _ => 0))), (u37_1, .inl (cI, 16448, .inl (fun _ => 0))), (u37_2, .inl (cI, 65, .inl (fun _ => 0))), (q44, .inr (3, [.ref u52_0, .ref u52_1, .ref u52_2, .ref u52_3, .ref u52_4, .ref q33, .int 0, .int 0, .int 0, .int 0])), (u52_0, .inl (cI, 16448, .inl (fun _ => 0))), (u52_1, .inl (cI, 16448, .inl (fun _ => 0))), (u52_2, .inl (cI, 16448, .inl (fun _ => 0))), (u52_3, .inl (cJ, 16448, .inr (.inl (fun _ => 0)))), (u52_4, .inr (2, [.ref u52_5, .ref u52_6, .ref u52_7, .int 0])), (u52_5, .inl (cI, 16448, .inl (fun _ => 0))), (u52_6, .inl (cI, 16448, .inl (fun _ => 0))), (u52_7, .inl (cI, 16448, .inl (fun _ => 0))), (q59, .inr (4, [.ref u71_0, .ref u71_2, .int 0, .int 0, .ref u71_3, .ref u71_4, .ref u71_5, .ref q33, .ref q44, .int 0, .int 0])), (u71_0, .inr (0, [.ref u71_1, .int 0])), (u71_1, .inl (cI, 200, .inl (fun _ => 0))), (u71_2, .inl (cI, 16384, .inl (fun _ => 0))), (u71_3, .inl (cI, 4, .inl (fun _ => 0))), (u71_4, .inl (cI, 4, .inl (fun _ => 0))), (u71_5, .inl (cI, 64, .inl (fun _ => 0)))] H := hP
  have hD : va_D A [(h_t, .inr (7, [.ref q5, .ref q19, .ref q33, .ref q44, .null, .null, .null])), (q5, .inr (0, [.ref u12_0, .int 0])), (u12_0, .inl (cI, 16384, .inl (fun _ => 0))), (q19, .inr (0, [.ref u26_0, .int 0])), (u26_0, .inl (cI, 16384, .inl (fun _ => 0))), (q33, .inr (1, [.ref u37_0, .ref u37_1, .ref u37_2, .int 0, .int 0])), (u37_0, .inl (cI, 16448, .inl (fun _ => 0))), (u37_1, .inl (cI, 16448, .inl (fun _ => 0))), (u37_2, .inl (cI, 65, .inl (fun _ => 0))), (q44, .inr (3, [.ref u52_0, .ref u52_1, .ref u52_2, .ref u52_3, .ref u52_4, .ref q33, .int 0, .int 0, .int 0, .int 0])), (u52_0, .inl (cI, 16448, .inl (fun _ => 0))), (u52_1, .inl (cI, 16448, .inl (fun _ => 0))), (u52_2, .inl (cI, 16448, .inl (fun _ => 0))), (u52_3, .inl (cJ, 16448, .inr (.inl (fun _ => 0)))), (u52_4, .inr (2, [.ref u52_5, .ref u52_6, .ref u52_7, .int 0])), (u52_5, .inl (cI, 16448, .inl (fun _ => 0))), (u52_6, .inl (cI, 16448, .inl (fun _ => 0))), (u52_7, .inl (cI, 16448, .inl (fun _ => 0))), (q59, .inr (4, [.ref u71_0, .ref u71_2, .int 0, .int 0, .ref u71_3, .ref u71_4, .ref u71_5, .ref q33, .ref q44, .int 0, .int 0])), (u71_0, .inr (0, [.ref u71_1, .int 0])), (u71_1, .inl (cI, 200, .inl (fun _ => 0))), (u71_2, .inl (cI, 16384, .inl (fun _ => 0))), (u71_3, .inl (cI, 4, .inl (fun _ => 0))), (u71_4, .inl (cI, 4, .inl (fun _ => 0))), (u71_5, .inl (cI, 64, .inl (fun _ => 0)))] := hD
  refine W.widen (k := 24) (n := 197557) (by omega) (by omega) ?_
  refine va_putF (D := (dC, dI)) (ci := 7) (v := .ref q59) (ty := .object "SuffixIndex$Search") (C := "SuffixIndex") (T := F_SI) (N := 7) hx hb hw i_SI t_SI t_SI_ok n_SI hown hK hP hD hS 0 rfl rfl 4 (by decide) (hw _ m_277) (fun _ h9 => h9) rfl hin rfl (by decide +kernel) rfl rfl (Nat.le_of_ble_eq_true rfl) d_SI_init_74 (fun H locs hP hD hS => ?_)
  have hP : va_P (dC, dI) classes [(h_t, .inr (7, [.ref q5, .ref q19, .ref q33, .ref q44, .ref q59, .null, .null])), (q5, .inr (0, [.ref u12_0, .int 0])), (u12_0, .inl (cI, 16384, .inl (fun _ => 0))), (q19, .inr (0, [.ref u26_0, .int 0])), (u26_0, .inl (cI, 16384, .inl (fun _ => 0))), (q33, .inr (1, [.ref u37_0, .ref u37_1, .ref u37_2, .int 0, .int 0])), (u37_0, .inl (cI, 16448, .inl (fun _ => 0))), (u37_1, .inl (cI, 16448, .inl (fun _ => 0))), (u37_2, .inl (cI, 65, .inl (fun _ => 0))), (q44, .inr (3, [.ref u52_0, .ref u52_1, .ref u52_2, .ref u52_3, .ref u52_4, .ref q33, .int 0, .int 0, .int 0, .int 0])), (u52_0, .inl (cI, 16448, .inl (fun _ => 0))), (u52_1, .inl (cI, 16448, .inl (fun _ => 0))), (u52_2, .inl (cI, 16448, .inl (fun _ => 0))), (u52_3, .inl (cJ, 16448, .inr (.inl (fun _ => 0)))), (u52_4, .inr (2, [.ref u52_5, .ref u52_6, .ref u52_7, .int 0])), (u52_5, .inl (cI, 16448, .inl (fun _ => 0))), (u52_6, .inl (cI, 16448, .inl (fun _ => 0))), (u52_7, .inl (cI, 16448, .inl (fun _ => 0))), (q59, .inr (4, [.ref u71_0, .ref u71_2, .int 0, .int 0, .ref u71_3, .ref u71_4, .ref u71_5, .ref q33, .ref q44, .int 0, .int 0])), (u71_0, .inr (0, [.ref u71_1, .int 0])), (u71_1, .inl (cI, 200, .inl (fun _ => 0))), (u71_2, .inl (cI, 16384, .inl (fun _ => 0))), (u71_3, .inl (cI, 4, .inl (fun _ => 0))), (u71_4, .inl (cI, 4, .inl (fun _ => 0))), (u71_5, .inl (cI, 64, .inl (fun _ => 0)))] H := hP
  have hD : va_D A [(h_t, .inr (7, [.ref q5, .ref q19, .ref q33, .ref q44, .ref q59, .null, .null])), (q5, .inr (0, [.ref u12_0, .int 0])), (u12_0, .inl (cI, 16384, .inl (fun _ => 0))), (q19, .inr (0, [.ref u26_0, .int 0])), (u26_0, .inl (cI, 16384, .inl (fun _ => 0))), (q33, .inr (1, [.ref u37_0, .ref u37_1, .ref u37_2, .int 0, .int 0])), (u37_0, .inl (cI, 16448, .inl (fun _ => 0))), (u37_1, .inl (cI, 16448, .inl (fun _ => 0))), (u37_2, .inl (cI, 65, .inl (fun _ => 0))), (q44, .inr (3, [.ref u52_0, .ref u52_1, .ref u52_2, .ref u52_3, .ref u52_4, .ref q33, .int 0, .int 0, .int 0, .int 0])), (u52_0, .inl (cI, 16448, .inl (fun _ => 0))), (u52_1, .inl (cI, 16448, .inl (fun _ => 0))), (u52_2, .inl (cI, 16448, .inl (fun _ => 0))), (u52_3, .inl (cJ, 16448, .inr (.inl (fun _ => 0)))), (u52_4, .inr (2, [.ref u52_5, .ref u52_6, .ref u52_7, .int 0])), (u52_5, .inl (cI, 16448, .inl (fun _ => 0))), (u52_6, .inl (cI, 16448, .inl (fun _ => 0))), (u52_7, .inl (cI, 16448, .inl (fun _ => 0))), (q59, .inr (4, [.ref u71_0, .ref u71_2, .int 0, .int 0, .ref u71_3, .ref u71_4, .ref u71_5, .ref q33, .ref q44, .int 0, .int 0])), (u71_0, .inr (0, [.ref u71_1, .int 0])), (u71_1, .inl (cI, 200, .inl (fun _ => 0))), (u71_2, .inl (cI, 16384, .inl (fun _ => 0))), (u71_3, .inl (cI, 4, .inl (fun _ => 0))), (u71_4, .inl (cI, 4, .inl (fun _ => 0))), (u71_5, .inl (cI, 64, .inl (fun _ => 0)))] := hD
  refine lv_aload_n hx hb d_SI_init_77 rfl (lv_at hl 0 rfl) ?_
  refine va_new (ci := 5) (fs := [.int 0, .int 0, .null, .null, .null, .null, .int 0, .int 0]) (C := "SuffixIndex$Window") (T := F_WI) (N := 8) hx hb hw i_WI t_WI t_WI_ok hown (hw _ m_214) (hw _ m_215) (hw _ m_7) hK hP hD hS hA rfl (fun j hj => by rcases (show j = 0 ∨ j = 1 ∨ j = 2 ∨ j = 3 ∨ j = 4 ∨ j = 5 ∨ j = 6 ∨ j = 7 by omega) with rfl | rfl | rfl | rfl | rfl | rfl | rfl | rfl <;> rfl) (by decide) (by decide) d_SI_init_78 (fun q78 H hP hD hS => ?_)
  have hP : va_P (dC, dI) classes [(h_t, .inr (7, [.ref q5, .ref q19, .ref q33, .ref q44, .ref q59, .null, .null])), (q5, .inr (0, [.ref u12_0, .int 0])), (u12_0, .inl (cI, 16384, .inl (fun _ => 0))), (q19, .inr (0, [.ref u26_0, .int 0])), (u26_0, .inl (cI, 16384, .inl (fun _ => 0))), (q33, .inr (1, [.ref u37_0, .ref u37_1, .ref u37_2, .int 0, .int 0])), (u37_0, .inl (cI, 16448, .inl (fun _ => 0))), (u37_1, .inl (cI, 16448, .inl (fun _ => 0))), (u37_2, .inl (cI, 65, .inl (fun _ => 0))), (q44, .inr (3, [.ref u52_0, .ref u52_1, .ref u52_2, .ref u52_3, .ref u52_4, .ref q33, .int 0, .int 0, .int 0, .int 0])), (u52_0, .inl (cI, 16448, .inl (fun _ => 0))), (u52_1, .inl (cI, 16448, .inl (fun _ => 0))), (u52_2, .inl (cI, 16448, .inl (fun _ => 0))), (u52_3, .inl (cJ, 16448, .inr (.inl (fun _ => 0)))), (u52_4, .inr (2, [.ref u52_5, .ref u52_6, .ref u52_7, .int 0])), (u52_5, .inl (cI, 16448, .inl (fun _ => 0))), (u52_6, .inl (cI, 16448, .inl (fun _ => 0))), (u52_7, .inl (cI, 16448, .inl (fun _ => 0))), (q59, .inr (4, [.ref u71_0, .ref u71_2, .int 0, .int 0, .ref u71_3, .ref u71_4, .ref u71_5, .ref q33, .ref q44, .int 0, .int 0])), (u71_0, .inr (0, [.ref u71_1, .int 0])), (u71_1, .inl (cI, 200, .inl (fun _ => 0))), (u71_2, .inl (cI, 16384, .inl (fun _ => 0))), (u71_3, .inl (cI, 4, .inl (fun _ => 0))), (u71_4, .inl (cI, 4, .inl (fun _ => 0))), (u71_5, .inl (cI, 64, .inl (fun _ => 0))), (q78, .inr (5, [.int 0, .int 0, .null, .null, .null, .null, .int 0, .int 0]))] H := hP
  have hD : va_D A [(h_t, .inr (7, [.ref q5, .ref q19, .ref q33, .ref q44, .ref q59, .null, .null])), (q5, .inr (0, [.ref u12_0, .int 0])), (u12_0, .inl (cI, 16384, .inl (fun _ => 0))), (q19, .inr (0, [.ref u26_0, .int 0])), (u26_0, .inl (cI, 16384, .inl (fun _ => 0))), (q33, .inr (1, [.ref u37_0, .ref u37_1, .ref u37_2, .int 0, .int 0])), (u37_0, .inl (cI, 16448, .inl (fun _ => 0))), (u37_1, .inl (cI, 16448, .inl (fun _ => 0))), (u37_2, .inl (cI, 65, .inl (fun _ => 0))), (q44, .inr (3, [.ref u52_0, .ref u52_1, .ref u52_2, .ref u52_3, .ref u52_4, .ref q33, .int 0, .int 0, .int 0, .int 0])), (u52_0, .inl (cI, 16448, .inl (fun _ => 0))), (u52_1, .inl (cI, 16448, .inl (fun _ => 0))), (u52_2, .inl (cI, 16448, .inl (fun _ => 0))), (u52_3, .inl (cJ, 16448, .inr (.inl (fun _ => 0)))), (u52_4, .inr (2, [.ref u52_5, .ref u52_6, .ref u52_7, .int 0])), (u52_5, .inl (cI, 16448, .inl (fun _ => 0))), (u52_6, .inl (cI, 16448, .inl (fun _ => 0))), (u52_7, .inl (cI, 16448, .inl (fun _ => 0))), (q59, .inr (4, [.ref u71_0, .ref u71_2, .int 0, .int 0, .ref u71_3, .ref u71_4, .ref u71_5, .ref q33, .ref q44, .int 0, .int 0])), (u71_0, .inr (0, [.ref u71_1, .int 0])), (u71_1, .inl (cI, 200, .inl (fun _ => 0))), (u71_2, .inl (cI, 16384, .inl (fun _ => 0))), (u71_3, .inl (cI, 4, .inl (fun _ => 0))), (u71_4, .inl (cI, 4, .inl (fun _ => 0))), (u71_5, .inl (cI, 64, .inl (fun _ => 0))), (q78, .inr (5, [.int 0, .int 0, .null, .null, .null, .null, .int 0, .int 0]))] := hD
  refine W.widen (k := 25) (n := 197565) (by omega) (by omega) ?_
  refine lv_dup hx hb d_SI_init_81 rfl ?_
  refine lv_aload_n hx hb d_SI_init_82 rfl (lv_at hl 0 rfl) ?_
  refine va_get (D := (dC, dI)) (ci := 7) (v := .ref q33) (C := "SuffixIndex") (T := F_SI) (N := 7) hx hb hw i_SI hown hK hP 0 rfl rfl 2 (by decide) (hw _ m_275) (fun _ h9 => h9) rfl d_SI_init_83 ?_
  refine lv_aload_n hx hb d_SI_init_86 rfl (lv_at hl 0 rfl) ?_
  refine va_get (D := (dC, dI)) (ci := 7) (v := .ref q44) (C := "SuffixIndex") (T := F_SI) (N := 7) hx hb hw i_SI hown hK hP 0 rfl rfl 3 (by decide) (hw _ m_276) (fun _ h9 => h9) rfl d_SI_init_87 ?_
  refine cI_v (wr := [(h_t, .inr (7, [.ref q5, .ref q19, .ref q33, .ref q44, .ref q59, .null, .null])), (q5, .inr (0, [.ref u12_0, .int 0])), (u12_0, .inl (cI, 16384, .inl (fun _ => 0))), (q19, .inr (0, [.ref u26_0, .int 0])), (u26_0, .inl (cI, 16384, .inl (fun _ => 0))), (q33, .inr (1, [.ref u37_0, .ref u37_1, .ref u37_2, .int 0, .int 0])), (u37_0, .inl (cI, 16448, .inl (fun _ => 0))), (u37_1, .inl (cI, 16448, .inl (fun _ => 0))), (u37_2, .inl (cI, 65, .inl (fun _ => 0))), (q44, .inr (3, [.ref u52_0, .ref u52_1, .ref u52_2, .ref u52_3, .ref u52_4, .ref q33, .int 0, .int 0, .int 0, .int 0])), (u52_0, .inl (cI, 16448, .inl (fun _ => 0))), (u52_1, .inl (cI, 16448, .inl (fun _ => 0))), (u52_2, .inl (cI, 16448, .inl (fun _ => 0))), (u52_3, .inl (cJ, 16448, .inr (.inl (fun _ => 0)))), (u52_4, .inr (2, [.ref u52_5, .ref u52_6, .ref u52_7, .int 0])), (u52_5, .inl (cI, 16448, .inl (fun _ => 0))), (u52_6, .inl (cI, 16448, .inl (fun _ => 0))), (u52_7, .inl (cI, 16448, .inl (fun _ => 0))), (q59, .inr (4, [.ref u71_0, .ref u71_2, .int 0, .int 0, .ref u71_3, .ref u71_4, .ref u71_5, .ref q33, .ref q44, .int 0, .int 0])), (u71_0, .inr (0, [.ref u71_1, .int 0])), (u71_1, .inl (cI, 200, .inl (fun _ => 0))), (u71_2, .inl (cI, 16384, .inl (fun _ => 0))), (u71_3, .inl (cI, 4, .inl (fun _ => 0))), (u71_4, .inl (cI, 4, .inl (fun _ => 0))), (u71_5, .inl (cI, 64, .inl (fun _ => 0)))]) (rest := [.ref q78, .ref h_t]) (c_WI_init l dC dI cI cJ cB cZ q78 q33 q44 H.size ) F (cw_I (fun _ h => h) 2 hw m_216 m_217 m_7 m_218 rfl rfl rfl (by decide +kernel) ⟨by decide, by decide⟩) hK hP hD hS hA [25] [0, 1, 2, 3, 4, 5, 6, 7, 8, 9, 10, 11, 12, 13, 14, 15, 16, 17, 18, 19, 20, 21, 22, 23, 24] rfl rfl rfl rfl (by decide) rfl hl.1 rfl (Nat.le_of_ble_eq_true rfl) d_SI_init_90 ⟨by decide, by decide⟩ (fun u H locs hv hP hD hS => ?_)
  obtain ⟨u90_0, u90_1⟩ := u
  have hP : va_P (dC, dI) classes [(h_t, .inr (7, [.ref q5, .ref q19, .ref q33, .ref q44, .ref q59, .null, .null])), (q5, .inr (0, [.ref u12_0, .int 0])), (u12_0, .inl (cI, 16384, .inl (fun _ => 0))), (q19, .inr (0, [.ref u26_0, .int 0])), (u26_0, .inl (cI, 16384, .inl (fun _ => 0))), (q33, .inr (1, [.ref u37_0, .ref u37_1, .ref u37_2, .int 0, .int 0])), (u37_0, .inl (cI, 16448, .inl (fun _ => 0))), (u37_1, .inl (cI, 16448, .inl (fun _ => 0))), (u37_2, .inl (cI, 65, .inl (fun _ => 0))), (q44, .inr (3, [.ref u52_0, .ref u52_1, .ref u52_2, .ref u52_3, .ref u52_4, .ref q33, .int 0, .int 0, .int 0, .int 0])), (u52_0, .inl (cI, 16448, .inl (fun _ => 0))), (u52_1, .inl (cI, 16448, .inl (fun _ => 0))), (u52_2, .inl (cI, 16448, .inl (fun _ => 0))), (u52_3, .inl (cJ, 16448, .inr (.inl (fun _ => 0)))), (u52_4, .inr (2, [.ref u52_5, .ref u52_6, .ref u52_7, .int 0])), (u52_5, .inl (cI, 16448, .inl (fun _ => 0))), (u52_6, .inl (cI, 16448, .inl (fun _ => 0))), (u52_7, .inl (cI, 16448, .inl (fun _ => 0))), (q59, .inr (4, [.ref u71_0, .ref u71_2, .int 0, .int 0, .ref u71_3, .ref u71_4, .ref u71_5, .ref q33, .ref q44, .int 0, .int 0])), (u71_0, .inr (0, [.ref u71_1, .int 0])), (u71_1, .inl (cI, 200, .inl (fun _ => 0))), (u71_2, .inl (cI, 16384, .inl (fun _ => 0))), (u71_3, .inl (cI, 4, .inl (fun _ => 0))), (u71_4, .inl (cI, 4, .inl (fun _ => 0))), (u71_5, .inl (cI, 64, .inl (fun _ => 0))), (q78, .inr (5, [.int 0, .int 0, .ref q33, .ref q44, .ref u90_0, .ref u90_1, .int 0, .int 0])), (u90_0, .inl (cI, 64, .inl (fun _ => 0))), (u90_1, .inl (cI, 16448, .inl (fun _ => 0)))] H := hP
  have hD : va_D A [(h_t, .inr (7, [.ref q5, .ref q19, .ref q33, .ref q44, .ref q59, .null, .null])), (q5, .inr (0, [.ref u12_0, .int 0])), (u12_0, .inl (cI, 16384, .inl (fun _ => 0))), (q19, .inr (0, [.ref u26_0, .int 0])), (u26_0, .inl (cI, 16384, .inl (fun _ => 0))), (q33, .inr (1, [.ref u37_0, .ref u37_1, .ref u37_2, .int 0, .int 0])), (u37_0, .inl (cI, 16448, .inl (fun _ => 0))), (u37_1, .inl (cI, 16448, .inl (fun _ => 0))), (u37_2, .inl (cI, 65, .inl (fun _ => 0))), (q44, .inr (3, [.ref u52_0, .ref u52_1, .ref u52_2, .ref u52_3, .ref u52_4, .ref q33, .int 0, .int 0, .int 0, .int 0])), (u52_0, .inl (cI, 16448, .inl (fun _ => 0))), (u52_1, .inl (cI, 16448, .inl (fun _ => 0))), (u52_2, .inl (cI, 16448, .inl (fun _ => 0))), (u52_3, .inl (cJ, 16448, .inr (.inl (fun _ => 0)))), (u52_4, .inr (2, [.ref u52_5, .ref u52_6, .ref u52_7, .int 0])), (u52_5, .inl (cI, 16448, .inl (fun _ => 0))), (u52_6, .inl (cI, 16448, .inl (fun _ => 0))), (u52_7, .inl (cI, 16448, .inl (fun _ => 0))), (q59, .inr (4, [.ref u71_0, .ref u71_2, .int 0, .int 0, .ref u71_3, .ref u71_4, .ref u71_5, .ref q33, .ref q44, .int 0, .int 0])), (u71_0, .inr (0, [.ref u71_1, .int 0])), (u71_1, .inl (cI, 200, .inl (fun _ => 0))), (u71_2, .inl (cI, 16384, .inl (fun _ => 0))), (u71_3, .inl (cI, 4, .inl (fun _ => 0))), (u71_4, .inl (cI, 4, .inl (fun _ => 0))), (u71_5, .inl (cI, 64, .inl (fun _ => 0))), (q78, .inr (5, [.int 0, .int 0, .ref q33, .ref q44, .ref u90_0, .ref u90_1, .int 0, .int 0])), (u90_0, .inl (cI, 64, .inl (fun _ => 0))), (u90_1, .inl (cI, 16448, .inl (fun _ => 0)))] := hD
  refine W.widen (k := 27) (n := 214077) (by omega) (by omega) ?_
  refine va_putF (D := (dC, dI)) (ci := 7) (v := .ref q78) (ty := .object "SuffixIndex$Window") (C := "SuffixIndex") (T := F_SI) (N := 7) hx hb hw i_SI t_SI t_SI_ok n_SI hown hK hP hD hS 0 rfl rfl 5 (by decide) (hw _ m_278) (fun _ h9 => h9) rfl hin rfl (by decide +kernel) rfl rfl (Nat.le_of_ble_eq_true rfl) d_SI_init_93 (fun H locs hP hD hS => ?_)
  have hP : va_P (dC, dI) classes [(h_t, .inr (7, [.ref q5, .ref q19, .ref q33, .ref q44, .ref q59, .ref q78, .null])), (q5, .inr (0, [.ref u12_0, .int 0])), (u12_0, .inl (cI, 16384, .inl (fun _ => 0))), (q19, .inr (0, [.ref u26_0, .int 0])), (u26_0, .inl (cI, 16384, .inl (fun _ => 0))), (q33, .inr (1, [.ref u37_0, .ref u37_1, .ref u37_2, .int 0, .int 0])), (u37_0, .inl (cI, 16448, .inl (fun _ => 0))), (u37_1, .inl (cI, 16448, .inl (fun _ => 0))), (u37_2, .inl (cI, 65, .inl (fun _ => 0))), (q44, .inr (3, [.ref u52_0, .ref u52_1, .ref u52_2, .ref u52_3, .ref u52_4, .ref q33, .int 0, .int 0, .int 0, .int 0])), (u52_0, .inl (cI, 16448, .inl (fun _ => 0))), (u52_1, .inl (cI, 16448, .inl (fun _ => 0))), (u52_2, .inl (cI, 16448, .inl (fun _ => 0))), (u52_3, .inl (cJ, 16448, .inr (.inl (fun _ => 0)))), (u52_4, .inr (2, [.ref u52_5, .ref u52_6, .ref u52_7, .int 0])), (u52_5, .inl (cI, 16448, .inl (fun _ => 0))), (u52_6, .inl (cI, 16448, .inl (fun _ => 0))), (u52_7, .inl (cI, 16448, .inl (fun _ => 0))), (q59, .inr (4, [.ref u71_0, .ref u71_2, .int 0, .int 0, .ref u71_3, .ref u71_4, .ref u71_5, .ref q33, .ref q44, .int 0, .int 0])), (u71_0, .inr (0, [.ref u71_1, .int 0])), (u71_1, .inl (cI, 200, .inl (fun _ => 0))), (u71_2, .inl (cI, 16384, .inl (fun _ => 0))), (u71_3, .inl (cI, 4, .inl (fun _ => 0))), (u71_4, .inl (cI, 4, .inl (fun _ => 0))), (u71_5, .inl (cI, 64, .inl (fun _ => 0))), (q78, .inr (5, [.int 0, .int 0, .ref q33, .ref q44, .ref u90_0, .ref u90_1, .int 0, .int 0])), (u90_0, .inl (cI, 64, .inl (fun _ => 0))), (u90_1, .inl (cI, 16448, .inl (fun _ => 0)))] H := hP
  have hD : va_D A [(h_t, .inr (7, [.ref q5, .ref q19, .ref q33, .ref q44, .ref q59, .ref q78, .null])), (q5, .inr (0, [.ref u12_0, .int 0])), (u12_0, .inl (cI, 16384, .inl (fun _ => 0))), (q19, .inr (0, [.ref u26_0, .int 0])), (u26_0, .inl (cI, 16384, .inl (fun _ => 0))), (q33, .inr (1, [.ref u37_0, .ref u37_1, .ref u37_2, .int 0, .int 0])), (u37_0, .inl (cI, 16448, .inl (fun _ => 0))), (u37_1, .inl (cI, 16448, .inl (fun _ => 0))), (u37_2, .inl (cI, 65, .inl (fun _ => 0))), (q44, .inr (3, [.ref u52_0, .ref u52_1, .ref u52_2, .ref u52_3, .ref u52_4, .ref q33, .int 0, .int 0, .int 0, .int 0])), (u52_0, .inl (cI, 16448, .inl (fun _ => 0))), (u52_1, .inl (cI, 16448, .inl (fun _ => 0))), (u52_2, .inl (cI, 16448, .inl (fun _ => 0))), (u52_3, .inl (cJ, 16448, .inr (.inl (fun _ => 0)))), (u52_4, .inr (2, [.ref u52_5, .ref u52_6, .ref u52_7, .int 0])), (u52_5, .inl (cI, 16448, .inl (fun _ => 0))), (u52_6, .inl (cI, 16448, .inl (fun _ => 0))), (u52_7, .inl (cI, 16448, .inl (fun _ => 0))), (q59, .inr (4, [.ref u71_0, .ref u71_2, .int 0, .int 0, .ref u71_3, .ref u71_4, .ref u71_5, .ref q33, .ref q44, .int 0, .int 0])), (u71_0, .inr (0, [.ref u71_1, .int 0])), (u71_1, .inl (cI, 200, .inl (fun _ => 0))), (u71_2, .inl (cI, 16384, .inl (fun _ => 0))), (u71_3, .inl (cI, 4, .inl (fun _ => 0))), (u71_4, .inl (cI, 4, .inl (fun _ => 0))), (u71_5, .inl (cI, 64, .inl (fun _ => 0))), (q78, .inr (5, [.int 0, .int 0, .ref q33, .ref q44, .ref u90_0, .ref u90_1, .int 0, .int 0])), (u90_0, .inl (cI, 64, .inl (fun _ => 0))), (u90_1, .inl (cI, 16448, .inl (fun _ => 0)))] := hD
  refine lv_aload_n hx hb d_SI_init_96 rfl (lv_at hl 0 rfl) ?_
  refine va_new (ci := 6) (fs := [.null, .null, .null, .null, .int 0, .int 0]) (C := "SuffixIndex$PhraseBook") (T := F_PB) (N := 6) hx hb hw i_PB t_PB t_PB_ok hown (hw _ m_247) (hw _ m_248) (hw _ m_8) hK hP hD hS hA rfl (fun j hj => by rcases (show j = 0 ∨ j = 1 ∨ j = 2 ∨ j = 3 ∨ j = 4 ∨ j = 5 by omega) with rfl | rfl | rfl | rfl | rfl | rfl <;> rfl) (by decide) (by decide) d_SI_init_97 (fun q97 H hP hD hS => ?_)
  have hP : va_P (dC, dI) classes [(h_t, .inr (7, [.ref q5, .ref q19, .ref q33, .ref q44, .ref q59, .ref q78, .null])), (q5, .inr (0, [.ref u12_0, .int 0])), (u12_0, .inl (cI, 16384, .inl (fun _ => 0))), (q19, .inr (0, [.ref u26_0, .int 0])), (u26_0, .inl (cI, 16384, .inl (fun _ => 0))), (q33, .inr (1, [.ref u37_0, .ref u37_1, .ref u37_2, .int 0, .int 0])), (u37_0, .inl (cI, 16448, .inl (fun _ => 0))), (u37_1, .inl (cI, 16448, .inl (fun _ => 0))), (u37_2, .inl (cI, 65, .inl (fun _ => 0))), (q44, .inr (3, [.ref u52_0, .ref u52_1, .ref u52_2, .ref u52_3, .ref u52_4, .ref q33, .int 0, .int 0, .int 0, .int 0])), (u52_0, .inl (cI, 16448, .inl (fun _ => 0))), (u52_1, .inl (cI, 16448, .inl (fun _ => 0))), (u52_2, .inl (cI, 16448, .inl (fun _ => 0))), (u52_3, .inl (cJ, 16448, .inr (.inl (fun _ => 0)))), (u52_4, .inr (2, [.ref u52_5, .ref u52_6, .ref u52_7, .int 0])), (u52_5, .inl (cI, 16448, .inl (fun _ => 0))), (u52_6, .inl (cI, 16448, .inl (fun _ => 0))), (u52_7, .inl (cI, 16448, .inl (fun _ => 0))), (q59, .inr (4, [.ref u71_0, .ref u71_2, .int 0, .int 0, .ref u71_3, .ref u71_4, .ref u71_5, .ref q33, .ref q44, .int 0, .int 0])), (u71_0, .inr (0, [.ref u71_1, .int 0])), (u71_1, .inl (cI, 200, .inl (fun _ => 0))), (u71_2, .inl (cI, 16384, .inl (fun _ => 0))), (u71_3, .inl (cI, 4, .inl (fun _ => 0))), (u71_4, .inl (cI, 4, .inl (fun _ => 0))), (u71_5, .inl (cI, 64, .inl (fun _ => 0))), (q78, .inr (5, [.int 0, .int 0, .ref q33, .ref q44, .ref u90_0, .ref u90_1, .int 0, .int 0])), (u90_0, .inl (cI, 64, .inl (fun _ => 0))), (u90_1, .inl (cI, 16448, .inl (fun _ => 0))), (q97, .inr (6, [.null, .null, .null, .null, .int 0, .int 0]))] H := hP
  have hD : va_D A [(h_t, .inr (7, [.ref q5, .ref q19, .ref q33, .ref q44, .ref q59, .ref q78, .null])), (q5, .inr (0, [.ref u12_0, .int 0])), (u12_0, .inl (cI, 16384, .inl (fun _ => 0))), (q19, .inr (0, [.ref u26_0, .int 0])), (u26_0, .inl (cI, 16384, .inl (fun _ => 0))), (q33, .inr (1, [.ref u37_0, .ref u37_1, .ref u37_2, .int 0, .int 0])), (u37_0, .inl (cI, 16448, .inl (fun _ => 0))), (u37_1, .inl (cI, 16448, .inl (fun _ => 0))), (u37_2, .inl (cI, 65, .inl (fun _ => 0))), (q44, .inr (3, [.ref u52_0, .ref u52_1, .ref u52_2, .ref u52_3, .ref u52_4, .ref q33, .int 0, .int 0, .int 0, .int 0])), (u52_0, .inl (cI, 16448, .inl (fun _ => 0))), (u52_1, .inl (cI, 16448, .inl (fun _ => 0))), (u52_2, .inl (cI, 16448, .inl (fun _ => 0))), (u52_3, .inl (cJ, 16448, .inr (.inl (fun _ => 0)))), (u52_4, .inr (2, [.ref u52_5, .ref u52_6, .ref u52_7, .int 0])), (u52_5, .inl (cI, 16448, .inl (fun _ => 0))), (u52_6, .inl (cI, 16448, .inl (fun _ => 0))), (u52_7, .inl (cI, 16448, .inl (fun _ => 0))), (q59, .inr (4, [.ref u71_0, .ref u71_2, .int 0, .int 0, .ref u71_3, .ref u71_4, .ref u71_5, .ref q33, .ref q44, .int 0, .int 0])), (u71_0, .inr (0, [.ref u71_1, .int 0])), (u71_1, .inl (cI, 200, .inl (fun _ => 0))), (u71_2, .inl (cI, 16384, .inl (fun _ => 0))), (u71_3, .inl (cI, 4, .inl (fun _ => 0))), (u71_4, .inl (cI, 4, .inl (fun _ => 0))), (u71_5, .inl (cI, 64, .inl (fun _ => 0))), (q78, .inr (5, [.int 0, .int 0, .ref q33, .ref q44, .ref u90_0, .ref u90_1, .int 0, .int 0])), (u90_0, .inl (cI, 64, .inl (fun _ => 0))), (u90_1, .inl (cI, 16448, .inl (fun _ => 0))), (q97, .inr (6, [.null, .null, .null, .null, .int 0, .int 0]))] := hD
  refine W.widen (k := 28) (n := 214083) (by omega) (by omega) ?_
  refine lv_dup hx hb d_SI_init_100 rfl ?_
  refine lv_aload_n hx hb d_SI_init_101 rfl (lv_at hl 0 rfl) ?_
  refine va_get (D := (dC, dI)) (ci := 7) (v := .ref q33) (C := "SuffixIndex") (T := F_SI) (N := 7) hx hb hw i_SI hown hK hP 0 rfl rfl 2 (by decide) (hw _ m_275) (fun _ h9 => h9) rfl d_SI_init_102 ?_
  refine lv_aload_n hx hb d_SI_init_105 rfl (lv_at hl 0 rfl) ?_
  refine va_get (D := (dC, dI)) (ci := 7) (v := .ref q44) (C := "SuffixIndex") (T := F_SI) (N := 7) hx hb hw i_SI hown hK hP 0 rfl rfl 3 (by decide) (hw _ m_276) (fun _ h9 => h9) rfl d_SI_init_106 ?_
  refine cI_v (wr := [(h_t, .inr (7, [.ref q5, .ref q19, .ref q33, .ref q44, .ref q59, .ref q78, .null])), (q5, .inr (0, [.ref u12_0, .int 0])), (u12_0, .inl (cI, 16384, .inl (fun _ => 0))), (q19, .inr (0, [.ref u26_0, .int 0])), (u26_0, .inl (cI, 16384, .inl (fun _ => 0))), (q33, .inr (1, [.ref u37_0, .ref u37_1, .ref u37_2, .int 0, .int 0])), (u37_0, .inl (cI, 16448, .inl (fun _ => 0))), (u37_1, .inl (cI, 16448, .inl (fun _ => 0))), (u37_2, .inl (cI, 65, .inl (fun _ => 0))), (q44, .inr (3, [.ref u52_0, .ref u52_1, .ref u52_2, .ref u52_3, .ref u52_4, .ref q33, .int 0, .int 0, .int 0, .int 0])), (u52_0, .inl (cI, 16448, .inl (fun _ => 0))), (u52_1, .inl (cI, 16448, .inl (fun _ => 0))), (u52_2, .inl (cI, 16448, .inl (fun _ => 0))), (u52_3, .inl (cJ, 16448, .inr (.inl (fun _ => 0)))), (u52_4, .inr (2, [.ref u52_5, .ref u52_6, .ref u52_7, .int 0])), (u52_5, .inl (cI, 16448, .inl (fun _ => 0))), (u52_6, .inl (cI, 16448, .inl (fun _ => 0))), (u52_7, .inl (cI, 16448, .inl (fun _ => 0))), (q59, .inr (4, [.ref u71_0, .ref u71_2, .int 0, .int 0, .ref u71_3, .ref u71_4, .ref u71_5, .ref q33, .ref q44, .int 0, .int 0])), (u71_0, .inr (0, [.ref u71_1, .int 0])), (u71_1, .inl (cI, 200, .inl (fun _ => 0))), (u71_2, .inl (cI, 16384, .inl (fun _ => 0))), (u71_3, .inl (cI, 4, .inl (fun _ => 0))), (u71_4, .inl (cI, 4, .inl (fun _ => 0))), (u71_5, .inl (cI, 64, .inl (fun _ => 0))), (q78, .inr (5, [.int 0, .int 0, .ref q33, .ref q44, .ref u90_0, .ref u90_1, .int 0, .int 0])), (u90_0, .inl (cI, 64, .inl (fun _ => 0))), (u90_1, .inl (cI, 16448, .inl (fun _ => 0)))]) (rest := [.ref q97, .ref h_t]) (c_PB_init l dC dI cI cJ cB cZ q97 q33 q44 H.size ) F (cw_I (fun _ h => h) 2 hw m_249 m_250 m_8 m_251 rfl rfl rfl (by decide +kernel) ⟨by decide, by decide⟩) hK hP hD hS hA [28] [0, 1, 2, 3, 4, 5, 6, 7, 8, 9, 10, 11, 12, 13, 14, 15, 16, 17, 18, 19, 20, 21, 22, 23, 24, 25, 26, 27] rfl rfl rfl rfl (by decide) rfl hl.1 rfl (Nat.le_of_ble_eq_true rfl) d_SI_init_109 ⟨by decide, by decide⟩ (fun u H locs hv hP hD hS => ?_)
  obtain ⟨u109_0, u109_1⟩ := u
  have hP : va_P (dC, dI) classes [(h_t, .inr (7, [.ref q5, .ref q19, .ref q33, .ref q44, .ref q59, .ref q78, .null])), (q5, .inr (0, [.ref u12_0, .int 0])), (u12_0, .inl (cI, 16384, .inl (fun _ => 0))), (q19, .inr (0, [.ref u26_0, .int 0])), (u26_0, .inl (cI, 16384, .inl (fun _ => 0))), (q33, .inr (1, [.ref u37_0, .ref u37_1, .ref u37_2, .int 0, .int 0])), (u37_0, .inl (cI, 16448, .inl (fun _ => 0))), (u37_1, .inl (cI, 16448, .inl (fun _ => 0))), (u37_2, .inl (cI, 65, .inl (fun _ => 0))), (q44, .inr (3, [.ref u52_0, .ref u52_1, .ref u52_2, .ref u52_3, .ref u52_4, .ref q33, .int 0, .int 0, .int 0, .int 0])), (u52_0, .inl (cI, 16448, .inl (fun _ => 0))), (u52_1, .inl (cI, 16448, .inl (fun _ => 0))), (u52_2, .inl (cI, 16448, .inl (fun _ => 0))), (u52_3, .inl (cJ, 16448, .inr (.inl (fun _ => 0)))), (u52_4, .inr (2, [.ref u52_5, .ref u52_6, .ref u52_7, .int 0])), (u52_5, .inl (cI, 16448, .inl (fun _ => 0))), (u52_6, .inl (cI, 16448, .inl (fun _ => 0))), (u52_7, .inl (cI, 16448, .inl (fun _ => 0))), (q59, .inr (4, [.ref u71_0, .ref u71_2, .int 0, .int 0, .ref u71_3, .ref u71_4, .ref u71_5, .ref q33, .ref q44, .int 0, .int 0])), (u71_0, .inr (0, [.ref u71_1, .int 0])), (u71_1, .inl (cI, 200, .inl (fun _ => 0))), (u71_2, .inl (cI, 16384, .inl (fun _ => 0))), (u71_3, .inl (cI, 4, .inl (fun _ => 0))), (u71_4, .inl (cI, 4, .inl (fun _ => 0))), (u71_5, .inl (cI, 64, .inl (fun _ => 0))), (q78, .inr (5, [.int 0, .int 0, .ref q33, .ref q44, .ref u90_0, .ref u90_1, .int 0, .int 0])), (u90_0, .inl (cI, 64, .inl (fun _ => 0))), (u90_1, .inl (cI, 16448, .inl (fun _ => 0))), (q97, .inr (6, [.ref u109_0, .ref u109_1, .ref q33, .ref q44, .int 0, .int 0])), (u109_0, .inl (cJ, 16448, .inr (.inl (fun _ => 0)))), (u109_1, .inl (cI, 64, .inl (fun _ => 0)))] H := hP
  have hD : va_D A [(h_t, .inr (7, [.ref q5, .ref q19, .ref q33, .ref q44, .ref q59, .ref q78, .null])), (q5, .inr (0, [.ref u12_0, .int 0])), (u12_0, .inl (cI, 16384, .inl (fun _ => 0))), (q19, .inr (0, [.ref u26_0, .int 0])), (u26_0, .inl (cI, 16384, .inl (fun _ => 0))), (q33, .inr (1, [.ref u37_0, .ref u37_1, .ref u37_2, .int 0, .int 0])), (u37_0, .inl (cI, 16448, .inl (fun _ => 0))), (u37_1, .inl (cI, 16448, .inl (fun _ => 0))), (u37_2, .inl (cI, 65, .inl (fun _ => 0))), (q44, .inr (3, [.ref u52_0, .ref u52_1, .ref u52_2, .ref u52_3, .ref u52_4, .ref q33, .int 0, .int 0, .int 0, .int 0])), (u52_0, .inl (cI, 16448, .inl (fun _ => 0))), (u52_1, .inl (cI, 16448, .inl (fun _ => 0))), (u52_2, .inl (cI, 16448, .inl (fun _ => 0))), (u52_3, .inl (cJ, 16448, .inr (.inl (fun _ => 0)))), (u52_4, .inr (2, [.ref u52_5, .ref u52_6, .ref u52_7, .int 0])), (u52_5, .inl (cI, 16448, .inl (fun _ => 0))), (u52_6, .inl (cI, 16448, .inl (fun _ => 0))), (u52_7, .inl (cI, 16448, .inl (fun _ => 0))), (q59, .inr (4, [.ref u71_0, .ref u71_2, .int 0, .int 0, .ref u71_3, .ref u71_4, .ref u71_5, .ref q33, .ref q44, .int 0, .int 0])), (u71_0, .inr (0, [.ref u71_1, .int 0])), (u71_1, .inl (cI, 200, .inl (fun _ => 0))), (u71_2, .inl (cI, 16384, .inl (fun _ => 0))), (u71_3, .inl (cI, 4, .inl (fun _ => 0))), (u71_4, .inl (cI, 4, .inl (fun _ => 0))), (u71_5, .inl (cI, 64, .inl (fun _ => 0))), (q78, .inr (5, [.int 0, .int 0, .ref q33, .ref q44, .ref u90_0, .ref u90_1, .int 0, .int 0])), (u90_0, .inl (cI, 64, .inl (fun _ => 0))), (u90_1, .inl (cI, 16448, .inl (fun _ => 0))), (q97, .inr (6, [.ref u109_0, .ref u109_1, .ref q33, .ref q44, .int 0, .int 0])), (u109_0, .inl (cJ, 16448, .inr (.inl (fun _ => 0)))), (u109_1, .inl (cI, 64, .inl (fun _ => 0)))] := hD
  refine W.widen (k := 30) (n := 230595) (by omega) (by omega) ?_
  refine va_putF (D := (dC, dI)) (ci := 7) (v := .ref q97) (ty := .object "SuffixIndex$PhraseBook") (C := "SuffixIndex") (T := F_SI) (N := 7) hx hb hw i_SI t_SI t_SI_ok n_SI hown hK hP hD hS 0 rfl rfl 6 (by decide) (hw _ m_279) (fun _ h9 => h9) rfl hin rfl (by decide +kernel) rfl rfl (Nat.le_of_ble_eq_true rfl) d_SI_init_112 (fun H locs hP hD hS => ?_)
  have hP : va_P (dC, dI) classes [(h_t, .inr (7, [.ref q5, .ref q19, .ref q33, .ref q44, .ref q59, .ref q78, .ref q97])), (q5, .inr (0, [.ref u12_0, .int 0])), (u12_0, .inl (cI, 16384, .inl (fun _ => 0))), (q19, .inr (0, [.ref u26_0, .int 0])), (u26_0, .inl (cI, 16384, .inl (fun _ => 0))), (q33, .inr (1, [.ref u37_0, .ref u37_1, .ref u37_2, .int 0, .int 0])), (u37_0, .inl (cI, 16448, .inl (fun _ => 0))), (u37_1, .inl (cI, 16448, .inl (fun _ => 0))), (u37_2, .inl (cI, 65, .inl (fun _ => 0))), (q44, .inr (3, [.ref u52_0, .ref u52_1, .ref u52_2, .ref u52_3, .ref u52_4, .ref q33, .int 0, .int 0, .int 0, .int 0])), (u52_0, .inl (cI, 16448, .inl (fun _ => 0))), (u52_1, .inl (cI, 16448, .inl (fun _ => 0))), (u52_2, .inl (cI, 16448, .inl (fun _ => 0))), (u52_3, .inl (cJ, 16448, .inr (.inl (fun _ => 0)))), (u52_4, .inr (2, [.ref u52_5, .ref u52_6, .ref u52_7, .int 0])), (u52_5, .inl (cI, 16448, .inl (fun _ => 0))), (u52_6, .inl (cI, 16448, .inl (fun _ => 0))), (u52_7, .inl (cI, 16448, .inl (fun _ => 0))), (q59, .inr (4, [.ref u71_0, .ref u71_2, .int 0, .int 0, .ref u71_3, .ref u71_4, .ref u71_5, .ref q33, .ref q44, .int 0, .int 0])), (u71_0, .inr (0, [.ref u71_1, .int 0])), (u71_1, .inl (cI, 200, .inl (fun _ => 0))), (u71_2, .inl (cI, 16384, .inl (fun _ => 0))), (u71_3, .inl (cI, 4, .inl (fun _ => 0))), (u71_4, .inl (cI, 4, .inl (fun _ => 0))), (u71_5, .inl (cI, 64, .inl (fun _ => 0))), (q78, .inr (5, [.int 0, .int 0, .ref q33, .ref q44, .ref u90_0, .ref u90_1, .int 0, .int 0])), (u90_0, .inl (cI, 64, .inl (fun _ => 0))), (u90_1, .inl (cI, 16448, .inl (fun _ => 0))), (q97, .inr (6, [.ref u109_0, .ref u109_1, .ref q33, .ref q44, .int 0, .int 0])), (u109_0, .inl (cJ, 16448, .inr (.inl (fun _ => 0)))), (u109_1, .inl (cI, 64, .inl (fun _ => 0)))] H := hP
  have hD : va_D A [(h_t, .inr (7, [.ref q5, .ref q19, .ref q33, .ref q44, .ref q59, .ref q78, .ref q97])), (q5, .inr (0, [.ref u12_0, .int 0])), (u12_0, .inl (cI, 16384, .inl (fun _ => 0))), (q19, .inr (0, [.ref u26_0, .int 0])), (u26_0, .inl (cI, 16384, .inl (fun _ => 0))), (q33, .inr (1, [.ref u37_0, .ref u37_1, .ref u37_2, .int 0, .int 0])), (u37_0, .inl (cI, 16448, .inl (fun _ => 0))), (u37_1, .inl (cI, 16448, .inl (fun _ => 0))), (u37_2, .inl (cI, 65, .inl (fun _ => 0))), (q44, .inr (3, [.ref u52_0, .ref u52_1, .ref u52_2, .ref u52_3, .ref u52_4, .ref q33, .int 0, .int 0, .int 0, .int 0])), (u52_0, .inl (cI, 16448, .inl (fun _ => 0))), (u52_1, .inl (cI, 16448, .inl (fun _ => 0))), (u52_2, .inl (cI, 16448, .inl (fun _ => 0))), (u52_3, .inl (cJ, 16448, .inr (.inl (fun _ => 0)))), (u52_4, .inr (2, [.ref u52_5, .ref u52_6, .ref u52_7, .int 0])), (u52_5, .inl (cI, 16448, .inl (fun _ => 0))), (u52_6, .inl (cI, 16448, .inl (fun _ => 0))), (u52_7, .inl (cI, 16448, .inl (fun _ => 0))), (q59, .inr (4, [.ref u71_0, .ref u71_2, .int 0, .int 0, .ref u71_3, .ref u71_4, .ref u71_5, .ref q33, .ref q44, .int 0, .int 0])), (u71_0, .inr (0, [.ref u71_1, .int 0])), (u71_1, .inl (cI, 200, .inl (fun _ => 0))), (u71_2, .inl (cI, 16384, .inl (fun _ => 0))), (u71_3, .inl (cI, 4, .inl (fun _ => 0))), (u71_4, .inl (cI, 4, .inl (fun _ => 0))), (u71_5, .inl (cI, 64, .inl (fun _ => 0))), (q78, .inr (5, [.int 0, .int 0, .ref q33, .ref q44, .ref u90_0, .ref u90_1, .int 0, .int 0])), (u90_0, .inl (cI, 64, .inl (fun _ => 0))), (u90_1, .inl (cI, 16448, .inl (fun _ => 0))), (q97, .inr (6, [.ref u109_0, .ref u109_1, .ref q33, .ref q44, .int 0, .int 0])), (u109_0, .inl (cJ, 16448, .inr (.inl (fun _ => 0)))), (u109_1, .inl (cI, 64, .inl (fun _ => 0)))] := hD
  have hP9 : va_P (dC, dI) classes [(h_t, .inr (7, [.ref q5, .ref q19, .ref q33, .ref q44, .ref q59, .ref q78, .ref q97])), (q5, .inr (0, [.ref u12_0, .int 0])), (u12_0, .inl (cI, 16384, .inl (fun _ => 0))), (q19, .inr (0, [.ref u26_0, .int 0])), (u26_0, .inl (cI, 16384, .inl (fun _ => 0))), (q33, .inr (1, [.ref u37_0, .ref u37_1, .ref u37_2, .int 0, .int 0])), (u37_0, .inl (cI, 16448, .inl (fun _ => 0))), (u37_1, .inl (cI, 16448, .inl (fun _ => 0))), (u37_2, .inl (cI, 65, .inl (fun _ => 0))), (q44, .inr (3, [.ref u52_0, .ref u52_1, .ref u52_2, .ref u52_3, .ref u52_4, .ref q33, .int 0, .int 0, .int 0, .int 0])), (u52_0, .inl (cI, 16448, .inl (fun _ => 0))), (u52_1, .inl (cI, 16448, .inl (fun _ => 0))), (u52_2, .inl (cI, 16448, .inl (fun _ => 0))), (u52_3, .inl (cJ, 16448, .inr (.inl (fun _ => 0)))), (u52_4, .inr (2, [.ref u52_5, .ref u52_6, .ref u52_7, .int 0])), (u52_5, .inl (cI, 16448, .inl (fun _ => 0))), (u52_6, .inl (cI, 16448, .inl (fun _ => 0))), (u52_7, .inl (cI, 16448, .inl (fun _ => 0))), (q59, .inr (4, [.ref u71_0, .ref u71_2, .int 0, .int 0, .ref u71_3, .ref u71_4, .ref u71_5, .ref q33, .ref q44, .int 0, .int 0])), (u71_0, .inr (0, [.ref u71_1, .int 0])), (u71_1, .inl (cI, 200, .inl (fun _ => 0))), (u71_2, .inl (cI, 16384, .inl (fun _ => 0))), (u71_3, .inl (cI, 4, .inl (fun _ => 0))), (u71_4, .inl (cI, 4, .inl (fun _ => 0))), (u71_5, .inl (cI, 64, .inl (fun _ => 0))), (q78, .inr (5, [.int 0, .int 0, .ref q33, .ref q44, .ref u90_0, .ref u90_1, .int 0, .int 0])), (u90_0, .inl (cI, 64, .inl (fun _ => 0))), (u90_1, .inl (cI, 16448, .inl (fun _ => 0))), (q97, .inr (6, [.ref u109_0, .ref u109_1, .ref q33, .ref q44, .int 0, .int 0])), (u109_0, .inl (cJ, 16448, .inr (.inl (fun _ => 0)))), (u109_1, .inl (cI, 64, .inl (fun _ => 0)))] H := P_sub hP [0, 1, 2, 3, 4, 5, 6, 7, 8, 9, 10, 11, 12, 13, 14, 15, 16, 17, 18, 19, 20, 21, 22, 23, 24, 25, 26, 27, 28, 29, 30] rfl
  have hD9 : va_D A [(h_t, .inr (7, [.ref q5, .ref q19, .ref q33, .ref q44, .ref q59, .ref q78, .ref q97])), (q5, .inr (0, [.ref u12_0, .int 0])), (u12_0, .inl (cI, 16384, .inl (fun _ => 0))), (q19, .inr (0, [.ref u26_0, .int 0])), (u26_0, .inl (cI, 16384, .inl (fun _ => 0))), (q33, .inr (1, [.ref u37_0, .ref u37_1, .ref u37_2, .int 0, .int 0])), (u37_0, .inl (cI, 16448, .inl (fun _ => 0))), (u37_1, .inl (cI, 16448, .inl (fun _ => 0))), (u37_2, .inl (cI, 65, .inl (fun _ => 0))), (q44, .inr (3, [.ref u52_0, .ref u52_1, .ref u52_2, .ref u52_3, .ref u52_4, .ref q33, .int 0, .int 0, .int 0, .int 0])), (u52_0, .inl (cI, 16448, .inl (fun _ => 0))), (u52_1, .inl (cI, 16448, .inl (fun _ => 0))), (u52_2, .inl (cI, 16448, .inl (fun _ => 0))), (u52_3, .inl (cJ, 16448, .inr (.inl (fun _ => 0)))), (u52_4, .inr (2, [.ref u52_5, .ref u52_6, .ref u52_7, .int 0])), (u52_5, .inl (cI, 16448, .inl (fun _ => 0))), (u52_6, .inl (cI, 16448, .inl (fun _ => 0))), (u52_7, .inl (cI, 16448, .inl (fun _ => 0))), (q59, .inr (4, [.ref u71_0, .ref u71_2, .int 0, .int 0, .ref u71_3, .ref u71_4, .ref u71_5, .ref q33, .ref q44, .int 0, .int 0])), (u71_0, .inr (0, [.ref u71_1, .int 0])), (u71_1, .inl (cI, 200, .inl (fun _ => 0))), (u71_2, .inl (cI, 16384, .inl (fun _ => 0))), (u71_3, .inl (cI, 4, .inl (fun _ => 0))), (u71_4, .inl (cI, 4, .inl (fun _ => 0))), (u71_5, .inl (cI, 64, .inl (fun _ => 0))), (q78, .inr (5, [.int 0, .int 0, .ref q33, .ref q44, .ref u90_0, .ref u90_1, .int 0, .int 0])), (u90_0, .inl (cI, 64, .inl (fun _ => 0))), (u90_1, .inl (cI, 16448, .inl (fun _ => 0))), (q97, .inr (6, [.ref u109_0, .ref u109_1, .ref q33, .ref q44, .int 0, .int 0])), (u109_0, .inl (cJ, 16448, .inr (.inl (fun _ => 0)))), (u109_1, .inl (cI, 64, .inl (fun _ => 0)))] := hD.sub [0, 1, 2, 3, 4, 5, 6, 7, 8, 9, 10, 11, 12, 13, 14, 15, 16, 17, 18, 19, 20, 21, 22, 23, 24, 25, 26, 27, 28, 29, 30] rfl rfl
  exact W.vret hx hb hr (fun t ht hW => ⟨⟨(q5, u12_0, q19, u26_0, q33, u37_0, u37_1, u37_2, q44, u52_0, u52_1, u52_2, u52_3, u52_4, u52_5, u52_6, u52_7, q59, u71_0, u71_1, u71_2, u71_3, u71_4, u71_5, q78, u90_0, u90_1, q97, u109_0, u109_1), rfl, trivial, by rw [ht]; exact hP9, va_K.moved hW.alike hK, hD9⟩, hS.F ht⟩) hS.2.2 d_SI_init_115
set_option maxHeartbeats 4000000 in
set_option maxRecDepth 100000 in
theorem c_MD_init (l : Launch) (dC : Nat → ClassId) (dI : Nat → Nat → Nat) (cI cJ cB cZ : ClassId) (h_t : Nat) (sz : Nat) : Met l y_MD_init (Cond.code y_MD_init b_MD_init 1 none :: WT) rm_MD_init (cPre (dC, dI) classes (TYS cI cJ cB cZ) [(h_t, .inr (8, [.int 0, .null, .null, .null, .null, .int 0, .int 0, .int 0, .int 0, .int 0, .int 0, .int 0, .null, .null, .null, .null, .null, .null, .null, .null, .null, .int 0]))] sz [.ref h_t]) (va_Qv (fun _ : Nat × Nat × Nat × Nat × Nat × Nat × Nat × Nat × Nat × Nat × Nat × Nat × Nat => True) (fun u t => cAft (dC, dI) classes (TYS cI cJ cB cZ) (va_A [(h_t, .inr (8, [.int 0, .null, .null, .null, .null, .int 0, .int 0, .int 0, .int 0, .int 0, .int 0, .int 0, .null, .null, .null, .null, .null, .null, .null, .null, .null, .int 0]))] sz) [(h_t, .inr (8, [.int 0, .ref u.1, .ref u.2.1, .ref u.2.2.1, .ref u.2.2.2.1, .int 0, .int 0, .int 0, .int 0, .int 0, .int 0, .int 0, .ref u.2.2.2.2.1, .ref u.2.2.2.2.2.1, .ref u.2.2.2.2.2.2.1, .ref u.2.2.2.2.2.2.2.1, .ref u.2.2.2.2.2.2.2.2.1, .ref u.2.2.2.2.2.2.2.2.2.1, .ref u.2.2.2.2.2.2.2.2.2.2.1, .ref u.2.2.2.2.2.2.2.2.2.2.2.1, .ref u.2.2.2.2.2.2.2.2.2.2.2.2, .int 0])), (u.1, .inl (cB, 16384, .inl (fun _ => 0))), (u.2.1, .inl (cB, 16384, .inl (fun _ => 0))), (u.2.2.1, .inl (cB, 16384, .inl (fun _ => 0))), (u.2.2.2.1, .inl (cB, 200, .inl (fun _ => 0))), (u.2.2.2.2.1, .inl (cI, 66, .inl (fun _ => 0))), (u.2.2.2.2.2.1, .inl (cI, 16384, .inl (fun _ => 0))), (u.2.2.2.2.2.2.1, .inl (cI, 16384, .inl (fun _ => 0))), (u.2.2.2.2.2.2.2.1, .inl (cI, 16384, .inl (fun _ => 0))), (u.2.2.2.2.2.2.2.2.1, .inl (cI, 16385, .inl (fun _ => 0))), (u.2.2.2.2.2.2.2.2.2.1, .inl (cI, 16384, .inl (fun _ => 0))), (u.2.2.2.2.2.2.2.2.2.2.1, .inl (cI, 16384, .inl (fun _ => 0))), (u.2.2.2.2.2.2.2.2.2.2.2.1, .inl (cI, 64, .inl (fun _ => 0))), (u.2.2.2.2.2.2.2.2.2.2.2.2, .inl (cZ, 64, .inl (fun _ => 0)))] t) (va_A [(h_t, .inr (8, [.int 0, .null, .null, .null, .null, .int 0, .int 0, .int 0, .int 0, .int 0, .int 0, .int 0, .null, .null, .null, .null, .null, .null, .null, .null, .null, .int 0]))] sz)) 13 147851 (va_A [(h_t, .inr (8, [.int 0, .null, .null, .null, .null, .int 0, .int 0, .int 0, .int 0, .int 0, .int 0, .int 0, .null, .null, .null, .null, .null, .null, .null, .null, .null, .int 0]))] sz) := by
  refine Met.ofW (cc := b_MD_init) (maxL := 1) (ret := none) (by decide) rfl ?_
  intro p e s m args below meth c s₁ B hml hq
  obtain ⟨rfl, hsz, hP, hK, hD0⟩ := hq
  have hts := atoms_spec (ws := Cond.code y_MD_init b_MD_init 1 none :: WT) B.pre
  have hw : ∀ w ∈ WT, w.before ([.ref h_t] : List Value).toArray s = true := fun w h => hts w (List.mem_cons_of_mem _ h)
  have hx := B.exec
  have hb := B.bytes
  have hr := B.returns
  have hlk := B.notSynchronized
  have hin : meth.name = "<init>" := (name_of_methodNamed B.named B.method).1
  have hown : s.vm.findClass "SuffixIndexModel" = some m.cls := findClass_of_methodNamed B.named
  have F : CallFix p m c b_MD_init 1 s ([.ref h_t] : List Value).toArray WT "SuffixIndexModel" := ⟨hx, hb, hml, hown, hw⟩
  subst hsz
  have hD := hD0.self (sz := s.heap.size)
  generalize hAe : va_A [(h_t, .inr (8, [.int 0, .null, .null, .null, .null, .int 0, .int 0, .int 0, .int 0, .int 0, .int 0, .int 0, .null, .null, .null, .null, .null, .null, .null, .null, .null, .int 0]))] s.heap.size = A at hD ⊢
  have hA : ∀ q : Nat, s.heap.size ≤ q → A q := fun q h => by rw [← hAe]; exact Or.inr h
  have hS : va_S A s.heap s.heap [] := va_S.rf
  have hl := lv_entry ([.ref h_t]) (n := 1) (Nat.le_of_ble_eq_true rfl)
  rw [lg_entry_eq]
  generalize (lg_sl ([.ref h_t]) ++ List.replicate (1 - (lg_sl ([.ref h_t])).length) Slot.unset).toArray = ls at hl ⊢
  have hl : lv_has ls 1 [(0, .ref h_t)] := hl
  show W p l e rm_MD_init s m _ below meth c s.heap [] 0 0 _ _
  have hP : va_P (dC, dI) classes [(h_t, .inr (8, [.int 0, .null, .null, .null, .null, .int 0, .int 0, .int 0, .int 0, .int 0, .int 0, .int 0, .null, .null, .null, .null, .null, .null, .null, .null, .null, .int 0]))] s.heap := hP
  obtain ⟨H, hHe⟩ : ∃ H, H = s.heap := ⟨_, rfl⟩
  have hS : va_S A s.heap H [] := by rw [hHe]; exact hS
  rw [← hHe] at hP
  suffices hgoal : W p l e rm_MD_init s m ([.ref h_t] : List Value).toArray below meth c H [] 0 0 (MQ below (va_Qv (fun _ : Nat × Nat × Nat × Nat × Nat × Nat × Nat × Nat × Nat × Nat × Nat × Nat × Nat => True) (fun u t => cAft (dC, dI) classes (TYS cI cJ cB cZ) A [(h_t, .inr (8, [.int 0, .ref u.1, .ref u.2.1, .ref u.2.2.1, .ref u.2.2.2.1, .int 0, .int 0, .int 0, .int 0, .int 0, .int 0, .int 0, .ref u.2.2.2.2.1, .ref u.2.2.2.2.2.1, .ref u.2.2.2.2.2.2.1, .ref u.2.2.2.2.2.2.2.1, .ref u.2.2.2.2.2.2.2.2.1, .ref u.2.2.2.2.2.2.2.2.2.1, .ref u.2.2.2.2.2.2.2.2.2.2.1, .ref u.2.2.2.2.2.2.2.2.2.2.2.1, .ref u.2.2.2.2.2.2.2.2.2.2.2.2, .int 0])), (u.1, .inl (cB, 16384, .inl (fun _ => 0))), (u.2.1, .inl (cB, 16384, .inl (fun _ => 0))), (u.2.2.1, .inl (cB, 16384, .inl (fun _ => 0))), (u.2.2.2.1, .inl (cB, 200, .inl (fun _ => 0))), (u.2.2.2.2.1, .inl (cI, 66, .inl (fun _ => 0))), (u.2.2.2.2.2.1, .inl (cI, 16384, .inl (fun _ => 0))), (u.2.2.2.2.2.2.1, .inl (cI, 16384, .inl (fun _ => 0))), (u.2.2.2.2.2.2.2.1, .inl (cI, 16384, .inl (fun _ => 0))), (u.2.2.2.2.2.2.2.2.1, .inl (cI, 16385, .inl (fun _ => 0))), (u.2.2.2.2.2.2.2.2.2.1, .inl (cI, 16384, .inl (fun _ => 0))), (u.2.2.2.2.2.2.2.2.2.2.1, .inl (cI, 16384, .inl (fun _ => 0))), (u.2.2.2.2.2.2.2.2.2.2.2.1, .inl (cI, 64, .inl (fun _ => 0))), (u.2.2.2.2.2.2.2.2.2.2.2.2, .inl (cZ, 64, .inl (fun _ => 0)))] t) A) ([.ref h_t] : List Value).toArray s 13 147851 A) (F0 m 0 ls []) by rw [hHe] at hgoal; exact hgoal
  refine lv_aload_n hx hb d_MD_init_0 rfl (lv_at hl 0 rfl) ?_
  refine W.objInit hx hb hown (hw _ m_1100) (hw _ m_35) (hw _ m_36) rfl (by rw [hml]; exact hl.1) rfl d_MD_init_1 (Nat.le_of_ble_eq_true rfl) (Nat.le_of_ble_eq_true rfl) ?_
  refine W.eq (g2 := F0 m 4 ls []) rfl ?_
  refine lv_aload_n hx hb d_MD_init_4 rfl (lv_at hl 0 rfl) ?_
  refine lv_iconst (v := 0) hx hb d_MD_init_5 (by decide) ?_
  refine va_put (D := (dC, dI)) (ci := 8) (v := .int 0) (ty := .int) (C := "SuffixIndexModel") (T := F_MD) (N := 22) hx hb hw i_MD t_MD t_MD_ok n_MD hown hK hP hD hS 0 rfl rfl 0 (by decide) (hw _ m_1101) (fun _ h9 => h9) rfl (by decide +kernel) rfl rfl (Nat.le_of_ble_eq_true rfl) d_MD_init_6 (fun H locs hP hD hS => ?_)
  have hP : va_P (dC, dI) classes [(h_t, .inr (8, [.int 0, .null, .null, .null, .null, .int 0, .int 0, .int 0, .int 0, .int 0, .int 0, .int 0, .null, .null, .null, .null, .null, .null, .null, .null, .null, .int 0]))] H := hP
  have hD : va_D A [(h_t, .inr (8, [.int 0, .null, .null, .null, .null, .int 0, .int 0, .int 0, .int 0, .int 0, .int 0, .int 0, .null, .null, .null, .null, .null, .null, .null, .null, .null, .int 0]))] := hD
  refine lv_aload_n hx hb d_MD_init_9 rfl (lv_at hl 0 rfl) ?_
  refine lv_sipush (v := nI 16384) hx hb d_MD_init_10 (by decide) ?_
  refine nw_a (atype := .byte) (ty := .byte) (a0 := (16384, .inl (fun _ => 0))) hx hb (hw _ m_399) rfl hK hP hD hS hA 2 rfl (fun _ h => h) (fun _ => rfl) (nI_pos (by decide)) (nI_clamp (by decide)) (by decide) (by decide) (by decide) d_MD_init_13 (fun q13 H hP hD hS => ?_)
  have hP : va_P (dC, dI) classes [(h_t, .inr (8, [.int 0, .null, .null, .null, .null, .int 0, .int 0, .int 0, .int 0, .int 0, .int 0, .int 0, .null, .null, .null, .null, .null, .null, .null, .null, .null, .int 0])), (q13, .inl (cB, 16384, .inl (fun _ => 0)))] H := hP
  have hD : va_D A [(h_t, .inr (8, [.int 0, .null, .null, .null, .null, .int 0, .int 0, .int 0, .int 0, .int 0, .int 0, .int 0, .null, .null, .null, .null, .null, .null, .null, .null, .null, .int 0])), (q13, .inl (cB, 16384, .inl (fun _ => 0)))] := hD
  refine W.widen (k := 1) (n := 16384) (by omega) (by omega) ?_
  refine va_putF (D := (dC, dI)) (ci := 8) (v := .ref q13) (ty := .array .byte) (C := "SuffixIndexModel") (T := F_MD) (N := 22) hx hb hw i_MD t_MD t_MD_ok n_MD hown hK hP hD hS 0 rfl rfl 1 (by decide) (hw _ m_1102) (fun _ h9 => h9) rfl hin rfl (by decide +kernel) rfl rfl (Nat.le_of_ble_eq_true rfl) d_MD_init_15 (fun H locs hP hD hS => ?_)
  have hP : va_P (dC, dI) classes [(h_t, .inr (8, [.int 0, .ref q13, .null, .null, .null, .int 0, .int 0, .int 0, .int 0, .int 0, .int 0, .int 0, .null, .null, .null, .null, .null, .null, .null, .null, .null, .int 0])), (q13, .inl (cB, 16384, .inl (fun _ => 0)))] H := hP
  have hD : va_D A [(h_t, .inr (8, [.int 0, .ref q13, .null, .null, .null, .int 0, .int 0, .int 0, .int 0, .int 0, .int 0, .int 0, .null, .null, .null, .null, .null, .null, .null, .null, .null, .int 0])), (q13, .inl (cB, 16384, .inl (fun _ => 0)))] := hD
  refine lv_aload_n hx hb d_MD_init_18 rfl (lv_at hl 0 rfl) ?_
  refine lv_sipush (v := nI 16384) hx hb d_MD_init_19 (by decide) ?_
  refine nw_a (atype := .byte) (ty := .byte) (a0 := (16384, .inl (fun _ => 0))) hx hb (hw _ m_399) rfl hK hP hD hS hA 2 rfl (fun _ h => h) (fun _ => rfl) (nI_pos (by decide)) (nI_clamp (by decide)) (by decide) (by decide) (by decide) d_MD_init_22 (fun q22 H hP hD hS => ?_)
  have hP : va_P (dC, dI) classes [(h_t, .inr (8, [.int 0, .ref q13, .null, .null, .null, .int 0, .int 0, .int 0, .int 0, .int 0, .int 0, .int 0, .null, .null, .null, .null, .null, .null, .null, .null, .null, .int 0])), (q13, .inl (cB, 16384, .inl (fun _ => 0))), (q22, .inl (cB, 16384, .inl (fun _ => 0)))] H := hP
  have hD : va_D A [(h_t, .inr (8, [.int 0, .ref q13, .null, .null, .null, .int 0, .int 0, .int 0, .int 0, .int 0, .int 0, .int 0, .null, .null, .null, .null, .null, .null, .null, .null, .null, .int 0])), (q13, .inl (cB, 16384, .inl (fun _ => 0))), (q22, .inl (cB, 16384, .inl (fun _ => 0)))] := hD
  refine W.widen (k := 2) (n := 32768) (by omega) (by omega) ?_
  refine va_putF (D := (dC, dI)) (ci := 8) (v := .ref q22) (ty := .array .byte) (C := "SuffixIndexModel") (T := F_MD) (N := 22) hx hb hw i_MD t_MD t_MD_ok n_MD hown hK hP hD hS 0 rfl rfl 2 (by decide) (hw _ m_1103) (fun _ h9 => h9) rfl hin rfl (by decide +kernel) rfl rfl (Nat.le_of_ble_eq_true rfl) d_MD_init_24 (fun H locs hP hD hS => ?_)
  have hP : va_P (dC, dI) classes [(h_t, .inr (8, [.int 0, .ref q13, .ref q22, .null, .null, .int 0, .int 0, .int 0, .int 0, .int 0, .int 0, .int 0, .null, .null, .null, .null, .null, .null, .null, .null, .null, .int 0])), (q13, .inl (cB, 16384, .inl (fun _ => 0))), (q22, .inl (cB, 16384, .inl (fun _ => 0)))] H := hP
  have hD : va_D A [(h_t, .inr (8, [.int 0, .ref q13, .ref q22, .null, .null, .int 0, .int 0, .int 0, .int 0, .int 0, .int 0, .int 0, .null, .null, .null, .null, .null, .null, .null, .null, .null, .int 0])), (q13, .inl (cB, 16384, .inl (fun _ => 0))), (q22, .inl (cB, 16384, .inl (fun _ => 0)))] := hD
  refine lv_aload_n hx hb d_MD_init_27 rfl (lv_at hl 0 rfl) ?_
  refine lv_sipush (v := nI 16384) hx hb d_MD_init_28 (by decide) ?_
  refine nw_a (atype := .byte) (ty := .byte) (a0 := (16384, .inl (fun _ => 0))) hx hb (hw _ m_399) rfl hK hP hD hS hA 2 rfl (fun _ h => h) (fun _ => rfl) (nI_pos (by decide)) (nI_clamp (by decide)) (by decide) (by decide) (by decide) d_MD_init_31 (fun q31 H hP hD hS => ?_)
  have hP : va_P (dC, dI) classes [(h_t, .inr (8, [.int 0, .ref q13, .ref q22, .null, .null, .int 0, .int 0, .int 0, .int 0, .int 0, .int 0, .int 0, .null, .null, .null, .null, .null, .null, .null, .null, .null, .int 0])), (q13, .inl (cB, 16384, .inl (fun _ => 0))), (q22, .inl (cB, 16384, .inl (fun _ => 0))), (q31, .inl (cB, 16384, .inl (fun _ => 0)))] H := hP
  have hD : va_D A [(h_t, .inr (8, [.int 0, .ref q13, .ref q22, .null, .null, .int 0, .int 0, .int 0, .int 0, .int 0, .int 0, .int 0, .null, .null, .null, .null, .null, .null, .null, .null, .null, .int 0])), (q13, .inl (cB, 16384, .inl (fun _ => 0))), (q22, .inl (cB, 16384, .inl (fun _ => 0))), (q31, .inl (cB, 16384, .inl (fun _ => 0)))] := hD
  refine W.widen (k := 3) (n := 49152) (by omega) (by omega) ?_
  refine va_putF (D := (dC, dI)) (ci := 8) (v := .ref q31) (ty := .array .byte) (C := "SuffixIndexModel") (T := F_MD) (N := 22) hx hb hw i_MD t_MD t_MD_ok n_MD hown hK hP hD hS 0 rfl rfl 3 (by decide) (hw _ m_1104) (fun _ h9 => h9) rfl hin rfl (by decide +kernel) rfl rfl (Nat.le_of_ble_eq_true rfl) d_MD_init_33 (fun H locs hP hD hS => ?_)
  have hP : va_P (dC, dI) classes [(h_t, .inr (8, [.int 0, .ref q13, .ref q22, .ref q31, .null, .int 0, .int 0, .int 0, .int 0, .int 0, .int 0, .int 0, .null, .null, .null, .null, .null, .null, .null, .null, .null, .int 0])), (q13, .inl (cB, 16384, .inl (fun _ => 0))), (q22, .inl (cB, 16384, .inl (fun _ => 0))), (q31, .inl (cB, 16384, .inl (fun _ => 0)))] H := hP
  have hD : va_D A [(h_t, .inr (8, [.int 0, .ref q13, .ref q22, .ref q31, .null, .int 0, .int 0, .int 0, .int 0, .int 0, .int 0, .int 0, .null, .null, .null, .null, .null, .null, .null, .null, .null, .int 0])), (q13, .inl (cB, 16384, .inl (fun _ => 0))), (q22, .inl (cB, 16384, .inl (fun _ => 0))), (q31, .inl (cB, 16384, .inl (fun _ => 0)))] := hD
  refine lv_aload_n hx hb d_MD_init_36 rfl (lv_at hl 0 rfl) ?_
  refine lv_sipush (v := nI 200) hx hb d_MD_init_37 (by decide) ?_
  refine nw_a (atype := .byte) (ty := .byte) (a0 := (200, .inl (fun _ => 0))) hx hb (hw _ m_399) rfl hK hP hD hS hA 2 rfl (fun _ h => h) (fun _ => rfl) (nI_pos (by decide)) (nI_clamp (by decide)) (by decide) (by decide) (by decide) d_MD_init_40 (fun q40 H hP hD hS => ?_)
  have hP : va_P (dC, dI) classes [(h_t, .inr (8, [.int 0, .ref q13, .ref q22, .ref q31, .null, .int 0, .int 0, .int 0, .int 0, .int 0, .int 0, .int 0, .null, .null, .null, .null, .null, .null, .null, .null, .null, .int 0])), (q13, .inl (cB, 16384, .inl (fun _ => 0))), (q22, .inl (cB, 16384, .inl (fun _ => 0))), (q31, .inl (cB, 16384, .inl (fun _ => 0))), (q40, .inl (cB, 200, .inl (fun _ => 0)))] H := hP
  have hD : va_D A [(h_t, .inr (8, [.int 0, .ref q13, .ref q22, .ref q31, .null, .int 0, .int 0, .int 0, .int 0, .int 0, .int 0, .int 0, .null, .null, .null, .null, .null, .null, .null, .null, .null, .int 0])), (q13, .inl (cB, 16384, .inl (fun _ => 0))), (q22, .inl (cB, 16384, .inl (fun _ => 0))), (q31, .inl (cB, 16384, .inl (fun _ => 0))), (q40, .inl (cB, 200, .inl (fun _ => 0)))] := hD
  refine W.widen (k := 4) (n := 49352) (by omega) (by omega) ?_
  refine va_putF (D := (dC, dI)) (ci := 8) (v := .ref q40) (ty := .array .byte) (C := "SuffixIndexModel") (T := F_MD) (N := 22) hx hb hw i_MD t_MD t_MD_ok n_MD hown hK hP hD hS 0 rfl rfl 4 (by decide) (hw _ m_1105) (fun _ h9 => h9) rfl hin rfl (by decide +kernel) rfl rfl (Nat.le_of_ble_eq_true rfl) d_MD_init_42 (fun H locs hP hD hS => ?_)
  have hP : va_P (dC, dI) classes [(h_t, .inr (8, [.int 0, .ref q13, .ref q22, .ref q31, .ref q40, .int 0, .int 0, .int 0, .int 0, .int 0, .int 0, .int 0, .null, .null, .null, .null, .null, .null, .null, .null, .null, .int 0])), (q13, .inl (cB, 16384, .inl (fun _ => 0))), (q22, .inl (cB, 16384, .inl (fun _ => 0))), (q31, .inl (cB, 16384, .inl (fun _ => 0))), (q40, .inl (cB, 200, .inl (fun _ => 0)))] H := hP
  have hD : va_D A [(h_t, .inr (8, [.int 0, .ref q13, .ref q22, .ref q31, .ref q40, .int 0, .int 0, .int 0, .int 0, .int 0, .int 0, .int 0, .null, .null, .null, .null, .null, .null, .null, .null, .null, .int 0])), (q13, .inl (cB, 16384, .inl (fun _ => 0))), (q22, .inl (cB, 16384, .inl (fun _ => 0))), (q31, .inl (cB, 16384, .inl (fun _ => 0))), (q40, .inl (cB, 200, .inl (fun _ => 0)))] := hD
  refine lv_aload_n hx hb d_MD_init_45 rfl (lv_at hl 0 rfl) ?_
  refine lv_iconst (v := 0) hx hb d_MD_init_46 (by decide) ?_
  refine va_put (D := (dC, dI)) (ci := 8) (v := .int 0) (ty := .int) (C := "SuffixIndexModel") (T := F_MD) (N := 22) hx hb hw i_MD t_MD t_MD_ok n_MD hown hK hP hD hS 0 rfl rfl 5 (by decide) (hw _ m_1106) (fun _ h9 => h9) rfl (by decide +kernel) rfl rfl (Nat.le_of_ble_eq_true rfl) d_MD_init_47 (fun H locs hP hD hS => ?_)
  have hP : va_P (dC, dI) classes [(h_t, .inr (8, [.int 0, .ref q13, .ref q22, .ref q31, .ref q40, .int 0, .int 0, .int 0, .int 0, .int 0, .int 0, .int 0, .null, .null, .null, .null, .null, .null, .null, .null, .null, .int 0])), (q13, .inl (cB, 16384, .inl (fun _ => 0))), (q22, .inl (cB, 16384, .inl (fun _ => 0))), (q31, .inl (cB, 16384, .inl (fun _ => 0))), (q40, .inl (cB, 200, .inl (fun _ => 0)))] H := hP
  have hD : va_D A [(h_t, .inr (8, [.int 0, .ref q13, .ref q22, .ref q31, .ref q40, .int 0, .int 0, .int 0, .int 0, .int 0, .int 0, .int 0, .null, .null, .null, .null, .null, .null, .null, .null, .null, .int 0])), (q13, .inl (cB, 16384, .inl (fun _ => 0))), (q22, .inl (cB, 16384, .inl (fun _ => 0))), (q31, .inl (cB, 16384, .inl (fun _ => 0))), (q40, .inl (cB, 200, .inl (fun _ => 0)))] := hD
  refine lv_aload_n hx hb d_MD_init_50 rfl (lv_at hl 0 rfl) ?_
  refine lv_iconst (v := 0) hx hb d_MD_init_51 (by decide) ?_
  refine va_put (D := (dC, dI)) (ci := 8) (v := .int 0) (ty := .int) (C := "SuffixIndexModel") (T := F_MD) (N := 22) hx hb hw i_MD t_MD t_MD_ok n_MD hown hK hP hD hS 0 rfl rfl 6 (by decide) (hw _ m_1107) (fun _ h9 => h9) rfl (by decide +kernel) rfl rfl (Nat.le_of_ble_eq_true rfl) d_MD_init_52 (fun H locs hP hD hS => ?_)
  have hP : va_P (dC, dI) classes [(h_t, .inr (8, [.int 0, .ref q13, .ref q22, .ref q31, .ref q40, .int 0, .int 0, .int 0, .int 0, .int 0, .int 0, .int 0, .null, .null, .null, .null, .null, .null, .null, .null, .null, .int 0])), (q13, .inl (cB, 16384, .inl (fun _ => 0))), (q22, .inl (cB, 16384, .inl (fun _ => 0))), (q31, .inl (cB, 16384, .inl (fun _ => 0))), (q40, .inl (cB, 200, .inl (fun _ => 0)))] H := hP
  have hD : va_D A [(h_t, .inr (8, [.int 0, .ref q13, .ref q22, .ref q31, .ref q40, .int 0, .int 0, .int 0, .int 0, .int 0, .int 0, .int 0, .null, .null, .null, .null, .null, .null, .null, .null, .null, .int 0])), (q13, .inl (cB, 16384, .inl (fun _ => 0))), (q22, .inl (cB, 16384, .inl (fun _ => 0))), (q31, .inl (cB, 16384, .inl (fun _ => 0))), (q40, .inl (cB, 200, .inl (fun _ => 0)))] := hD
  refine lv_aload_n hx hb d_MD_init_55 rfl (lv_at hl 0 rfl) ?_
  refine lv_iconst (v := 0) hx hb d_MD_init_56 (by decide) ?_
  refine va_put (D := (dC, dI)) (ci := 8) (v := .int 0) (ty := .int) (C := "SuffixIndexModel") (T := F_MD) (N := 22) hx hb hw i_MD t_MD t_MD_ok n_MD hown hK hP hD hS 0 rfl rfl 7 (by decide) (hw _ m_1108) (fun _ h9 => h9) rfl (by decide +kernel) rfl rfl (Nat.le_of_ble_eq_true rfl) d_MD_init_57 (fun H locs hP hD hS => ?_)
  have hP : va_P (dC, dI) classes [(h_t, .inr (8, [.int 0, .ref q13, .ref q22, .ref q31, .ref q40, .int 0, .int 0, .int 0, .int 0, .int 0, .int 0, .int 0, .null, .null, .null, .null, .null, .null, .null, .null, .null, .int 0])), (q13, .inl (cB, 16384, .inl (fun _ => 0))), (q22, .inl (cB, 16384, .inl (fun _ => 0))), (q31, .inl (cB, 16384, .inl (fun _ => 0))), (q40, .inl (cB, 200, .inl (fun _ => 0)))] H := hP
  have hD : va_D A [(h_t, .inr (8, [.int 0, .ref q13, .ref q22, .ref q31, .ref q40, .int 0, .int 0, .int 0, .int 0, .int 0, .int 0, .int 0, .null, .null, .null, .null, .null, .null, .null, .null, .null, .int 0])), (q13, .inl (cB, 16384, .inl (fun _ => 0))), (q22, .inl (cB, 16384, .inl (fun _ => 0))), (q31, .inl (cB, 16384, .inl (fun _ => 0))), (q40, .inl (cB, 200, .inl (fun _ => 0)))] := hD
  refine lv_aload_n hx hb d_MD_init_60 rfl (lv_at hl 0 rfl) ?_
  refine lv_iconst (v := 0) hx hb d_MD_init_61 (by decide) ?_
  refine va_put (D := (dC, dI)) (ci := 8) (v := .int 0) (ty := .int) (C := "SuffixIndexModel") (T := F_MD) (N := 22) hx hb hw i_MD t_MD t_MD_ok n_MD hown hK hP hD hS 0 rfl rfl 8 (by decide) (hw _ m_1109) (fun _ h9 => h9) rfl (by decide +kernel) rfl rfl (Nat.le_of_ble_eq_true rfl) d_MD_init_62 (fun H locs hP hD hS => ?_)
  have hP : va_P (dC, dI) classes [(h_t, .inr (8, [.int 0, .ref q13, .ref q22, .ref q31, .ref q40, .int 0, .int 0, .int 0, .int 0, .int 0, .int 0, .int 0, .null, .null, .null, .null, .null, .null, .null, .null, .null, .int 0])), (q13, .inl (cB, 16384, .inl (fun _ => 0))), (q22, .inl (cB, 16384, .inl (fun _ => 0))), (q31, .inl (cB, 16384, .inl (fun _ => 0))), (q40, .inl (cB, 200, .inl (fun _ => 0)))] H := hP
  have hD : va_D A [(h_t, .inr (8, [.int 0, .ref q13, .ref q22, .ref q31, .ref q40, .int 0, .int 0, .int 0, .int 0, .int 0, .int 0, .int 0, .null, .null, .null, .null, .null, .null, .null, .null, .null, .int 0])), (q13, .inl (cB, 16384, .inl (fun _ => 0))), (q22, .inl (cB, 16384, .inl (fun _ => 0))), (q31, .inl (cB, 16384, .inl (fun _ => 0))), (q40, .inl (cB, 200, .inl (fun _ => 0)))] := hD
  refine lv_aload_n hx hb d_MD_init_65 rfl (lv_at hl 0 rfl) ?_
  refine lv_iconst (v := 0) hx hb d_MD_init_66 (by decide) ?_
  refine va_put (D := (dC, dI)) (ci := 8) (v := .int 0) (ty := .int) (C := "SuffixIndexModel") (T := F_MD) (N := 22) hx hb hw i_MD t_MD t_MD_ok n_MD hown hK hP hD hS 0 rfl rfl 9 (by decide) (hw _ m_1110) (fun _ h9 => h9) rfl (by decide +kernel) rfl rfl (Nat.le_of_ble_eq_true rfl) d_MD_init_67 (fun H locs hP hD hS => ?_)
  have hP : va_P (dC, dI) classes [(h_t, .inr (8, [.int 0, .ref q13, .ref q22, .ref q31, .ref q40, .int 0, .int 0, .int 0, .int 0, .int 0, .int 0, .int 0, .null, .null, .null, .null, .null, .null, .null, .null, .null, .int 0])), (q13, .inl (cB, 16384, .inl (fun _ => 0))), (q22, .inl (cB, 16384, .inl (fun _ => 0))), (q31, .inl (cB, 16384, .inl (fun _ => 0))), (q40, .inl (cB, 200, .inl (fun _ => 0)))] H := hP
  have hD : va_D A [(h_t, .inr (8, [.int 0, .ref q13, .ref q22, .ref q31, .ref q40, .int 0, .int 0, .int 0, .int 0, .int 0, .int 0, .int 0, .null, .null, .null, .null, .null, .null, .null, .null, .null, .int 0])), (q13, .inl (cB, 16384, .inl (fun _ => 0))), (q22, .inl (cB, 16384, .inl (fun _ => 0))), (q31, .inl (cB, 16384, .inl (fun _ => 0))), (q40, .inl (cB, 200, .inl (fun _ => 0)))] := hD
  refine lv_aload_n hx hb d_MD_init_70 rfl (lv_at hl 0 rfl) ?_
  refine lv_iconst (v := 0) hx hb d_MD_init_71 (by decide) ?_
  refine va_put (D := (dC, dI)) (ci := 8) (v := .int 0) (ty := .int) (C := "SuffixIndexModel") (T := F_MD) (N := 22) hx hb hw i_MD t_MD t_MD_ok n_MD hown hK hP hD hS 0 rfl rfl 10 (by decide) (hw _ m_1111) (fun _ h9 => h9) rfl (by decide +kernel) rfl rfl (Nat.le_of_ble_eq_true rfl) d_MD_init_72 (fun H locs hP hD hS => ?_)
  have hP : va_P (dC, dI) classes [(h_t, .inr (8, [.int 0, .ref q13, .ref q22, .ref q31, .ref q40, .int 0, .int 0, .int 0, .int 0, .int 0, .int 0, .int 0, .null, .null, .null, .null, .null, .null, .null, .null, .null, .int 0])), (q13, .inl (cB, 16384, .inl (fun _ => 0))), (q22, .inl (cB, 16384, .inl (fun _ => 0))), (q31, .inl (cB, 16384, .inl (fun _ => 0))), (q40, .inl (cB, 200, .inl (fun _ => 0)))] H := hP
  have hD : va_D A [(h_t, .inr (8, [.int 0, .ref q13, .ref q22, .ref q31, .ref q40, .int 0, .int 0, .int 0, .int 0, .int 0, .int 0, .int 0, .null, .null, .null, .null, .null, .null, .null, .null, .null, .int 0])), (q13, .inl (cB, 16384, .inl (fun _ => 0))), (q22, .inl (cB, 16384, .inl (fun _ => 0))), (q31, .inl (cB, 16384, .inl (fun _ => 0))), (q40, .inl (cB, 200, .inl (fun _ => 0)))] := hD
  refine lv_aload_n hx hb d_MD_init_75 rfl (lv_at hl 0 rfl) ?_
  refine lv_iconst (v := 0) hx hb d_MD_init_76 (by decide) ?_
  refine va_put (D := (dC, dI)) (ci := 8) (v := .int 0) (ty := .int) (C := "SuffixIndexModel") (T := F_MD) (N := 22) hx hb hw i_MD t_MD t_MD_ok n_MD hown hK hP hD hS 0 rfl rfl 11 (by decide) (hw _ m_1112) (fun _ h9 => h9) rfl (by decide +kernel) rfl rfl (Nat.le_of_ble_eq_true rfl) d_MD_init_77 (fun H locs hP hD hS => ?_)
  have hP : va_P (dC, dI) classes [(h_t, .inr (8, [.int 0, .ref q13, .ref q22, .ref q31, .ref q40, .int 0, .int 0, .int 0, .int 0, .int 0, .int 0, .int 0, .null, .null, .null, .null, .null, .null, .null, .null, .null, .int 0])), (q13, .inl (cB, 16384, .inl (fun _ => 0))), (q22, .inl (cB, 16384, .inl (fun _ => 0))), (q31, .inl (cB, 16384, .inl (fun _ => 0))), (q40, .inl (cB, 200, .inl (fun _ => 0)))] H := hP
  have hD : va_D A [(h_t, .inr (8, [.int 0, .ref q13, .ref q22, .ref q31, .ref q40, .int 0, .int 0, .int 0, .int 0, .int 0, .int 0, .int 0, .null, .null, .null, .null, .null, .null, .null, .null, .null, .int 0])), (q13, .inl (cB, 16384, .inl (fun _ => 0))), (q22, .inl (cB, 16384, .inl (fun _ => 0))), (q31, .inl (cB, 16384, .inl (fun _ => 0))), (q40, .inl (cB, 200, .inl (fun _ => 0)))] := hD
  refine lv_aload_n hx hb d_MD_init_80 rfl (lv_at hl 0 rfl) ?_
  refine lv_bipush (v := nI 66) hx hb d_MD_init_81 (by decide) ?_
  refine nw_a (atype := .int) (ty := .int) (a0 := (66, .inl (fun _ => 0))) hx hb (hw _ m_58) rfl hK hP hD hS hA 0 rfl (fun _ h => h) (fun _ => rfl) (nI_pos (by decide)) (nI_clamp (by decide)) (by decide) (by decide) (by decide) d_MD_init_83 (fun q83 H hP hD hS => ?_)
  have hP : va_P (dC, dI) classes [(h_t, .inr (8, [.int 0, .ref q13, .ref q22, .ref q31, .ref q40, .int 0, .int 0, .int 0, .int 0, .int 0, .int 0, .int 0, .null, .null, .null, .null, .null, .null, .null, .null, .null, .int 0])), (q13, .inl (cB, 16384, .inl (fun _ => 0))), (q22, .inl (cB, 16384, .inl (fun _ => 0))), (q31, .inl (cB, 16384, .inl (fun _ => 0))), (q40, .inl (cB, 200, .inl (fun _ => 0))), (q83, .inl (cI, 66, .inl (fun _ => 0)))] H := hP
  have hD : va_D A [(h_t, .inr (8, [.int 0, .ref q13, .ref q22, .ref q31, .ref q40, .int 0, .int 0, .int 0, .int 0, .int 0, .int 0, .int 0, .null, .null, .null, .null, .null, .null, .null, .null, .null, .int 0])), (q13, .inl (cB, 16384, .inl (fun _ => 0))), (q22, .inl (cB, 16384, .inl (fun _ => 0))), (q31, .inl (cB, 16384, .inl (fun _ => 0))), (q40, .inl (cB, 200, .inl (fun _ => 0))), (q83, .inl (cI, 66, .inl (fun _ => 0)))] := hD
  refine W.widen (k := 5) (n := 49418) (by omega) (by omega) ?_
  refine va_putF (D := (dC, dI)) (ci := 8) (v := .ref q83) (ty := .array .int) (C := "SuffixIndexModel") (T := F_MD) (N := 22) hx hb hw i_MD t_MD t_MD_ok n_MD hown hK hP hD hS 0 rfl rfl 12 (by decide) (hw _ m_1113) (fun _ h9 => h9) rfl hin rfl (by decide +kernel) rfl rfl (Nat.le_of_ble_eq_true rfl) d_MD_init_85 (fun H locs hP hD hS => ?_)
  have hP : va_P (dC, dI) classes [(h_t, .inr (8, [.int 0, .ref q13, .ref q22, .ref q31, .ref q40, .int 0, .int 0, .int 0, .int 0, .int 0, .int 0, .int 0, .ref q83, .null, .null, .null, .null, .null, .null, .null, .null, .int 0])), (q13, .inl (cB, 16384, .inl (fun _ => 0))), (q22, .inl (cB, 16384, .inl (fun _ => 0))), (q31, .inl (cB, 16384, .inl (fun _ => 0))), (q40, .inl (cB, 200, .inl (fun _ => 0))), (q83, .inl (cI, 66, .inl (fun _ => 0)))] H := hP
  have hD : va_D A [(h_t, .inr (8, [.int 0, .ref q13, .ref q22, .ref q31, .ref q40, .int 0, .int 0, .int 0, .int 0, .int 0, .int 0, .int 0, .ref q83, .null, .null, .null, .null, .null, .null, .null, .null, .int 0])), (q13, .inl (cB, 16384, .inl (fun _ => 0))), (q22, .inl (cB, 16384, .inl (fun _ => 0))), (q31, .inl (cB, 16384, .inl (fun _ => 0))), (q40, .inl (cB, 200, .inl (fun _ => 0))), (q83, .inl (cI, 66, .inl (fun _ => 0)))] := hD
  refine lv_aload_n hx hb d_MD_init_88 rfl (lv_at hl 0 rfl) ?_
  refine lv_sipush (v := nI 16384) hx hb d_MD_init_89 (by decide) ?_
  refine nw_a (atype := .int) (ty := .int) (a0 := (16384, .inl (fun _ => 0))) hx hb (hw _ m_58) rfl hK hP hD hS hA 0 rfl (fun _ h => h) (fun _ => rfl) (nI_pos (by decide)) (nI_clamp (by decide)) (by decide) (by decide) (by decide) d_MD_init_92 (fun q92 H hP hD hS => ?_)
  have hP : va_P (dC, dI) classes [(h_t, .inr (8, [.int 0, .ref q13, .ref q22, .ref q31, .ref q40, .int 0, .int 0, .int 0, .int 0, .int 0, .int 0, .int 0, .ref q83, .null, .null, .null, .null, .null, .null, .null, .null, .int 0])), (q13, .inl (cB, 16384, .inl (fun _ => 0))), (q22, .inl (cB, 16384, .inl (fun _ => 0))), (q31, .inl (cB, 16384, .inl (fun _ => 0))), (q40, .inl (cB, 200, .inl (fun _ => 0))), (q83, .inl (cI, 66, .inl (fun _ => 0))), (q92, .inl (cI, 16384, .inl (fun _ => 0)))] H := hP
  have hD : va_D A [(h_t, .inr (8, [.int 0, .ref q13, .ref q22, .ref q31, .ref q40, .int 0, .int 0, .int 0, .int 0, .int 0, .int 0, .int 0, .ref q83, .null, .null, .null, .null, .null, .null, .null, .null, .int 0])), (q13, .inl (cB, 16384, .inl (fun _ => 0))), (q22, .inl (cB, 16384, .inl (fun _ => 0))), (q31, .inl (cB, 16384, .inl (fun _ => 0))), (q40, .inl (cB, 200, .inl (fun _ => 0))), (q83, .inl (cI, 66, .inl (fun _ => 0))), (q92, .inl (cI, 16384, .inl (fun _ => 0)))] := hD
  refine W.widen (k := 6) (n := 65802) (by omega) (by omega) ?_
  refine va_putF (D := (dC, dI)) (ci := 8) (v := .ref q92) (ty := .array .int) (C := "SuffixIndexModel") (T := F_MD) (N := 22) hx hb hw i_MD t_MD t_MD_ok n_MD hown hK hP hD hS 0 rfl rfl 13 (by decide) (hw _ m_1114) (fun _ h9 => h9) rfl hin rfl (by decide +kernel) rfl rfl (Nat.le_of_ble_eq_true rfl) d_MD_init_94 (fun H locs hP hD hS => ?_)
  have hP : va_P (dC, dI) classes [(h_t, .inr (8, [.int 0, .ref q13, .ref q22, .ref q31, .ref q40, .int 0, .int 0, .int 0, .int 0, .int 0, .int 0, .int 0, .ref q83, .ref q92, .null, .null, .null, .null, .null, .null, .null, .int 0])), (q13, .inl (cB, 16384, .inl (fun _ => 0))), (q22, .inl (cB, 16384, .inl (fun _ => 0))), (q31, .inl (cB, 16384, .inl (fun _ => 0))), (q40, .inl (cB, 200, .inl (fun _ => 0))), (q83, .inl (cI, 66, .inl (fun _ => 0))), (q92, .inl (cI, 16384, .inl (fun _ => 0)))] H := hP
  have hD : va_D A [(h_t, .inr (8, [.int 0, .ref q13, .ref q22, .ref q31, .ref q40, .int 0, .int 0, .int 0, .int 0, .int 0, .int 0, .int 0, .ref q83, .ref q92, .null, .null, .null, .null, .null, .null, .null, .int 0])), (q13, .inl (cB, 16384, .inl (fun _ => 0))), (q22, .inl (cB, 16384, .inl (fun _ => 0))), (q31, .inl (cB, 16384, .inl (fun _ => 0))), (q40, .inl (cB, 200, .inl (fun _ => 0))), (q83, .inl (cI, 66, .inl (fun _ => 0))), (q92, .inl (cI, 16384, .inl (fun _ => 0)))] := hD
  refine lv_aload_n hx hb d_MD_init_97 rfl (lv_at hl 0 rfl) ?_
  refine lv_sipush (v := nI 16384) hx hb d_MD_init_98 (by decide) ?_
  refine nw_a (atype := .int) (ty := .int) (a0 := (16384, .inl (fun _ => 0))) hx hb (hw _ m_58) rfl hK hP hD hS hA 0 rfl (fun _ h => h) (fun _ => rfl) (nI_pos (by decide)) (nI_clamp (by decide)) (by decide) (by decide) (by decide) d_MD_init_101 (fun q101 H hP hD hS => ?_)
  have hP : va_P (dC, dI) classes [(h_t, .inr (8, [.int 0, .ref q13, .ref q22, .ref q31, .ref q40, .int 0, .int 0, .int 0, .int 0, .int 0, .int 0, .int 0, .ref q83, .ref q92, .null, .null, .null, .null, .null, .null, .null, .int 0])), (q13, .inl (cB, 16384, .inl (fun _ => 0))), (q22, .inl (cB, 16384, .inl (fun _ => 0))), (q31, .inl (cB, 16384, .inl (fun _ => 0))), (q40, .inl (cB, 200, .inl (fun _ => 0))), (q83, .inl (cI, 66, .inl (fun _ => 0))), (q92, .inl (cI, 16384, .inl (fun _ => 0))), (q101, .inl (cI, 16384, .inl (fun _ => 0)))] H := hP
  have hD : va_D A [(h_t, .inr (8, [.int 0, .ref q13, .ref q22, .ref q31, .ref q40, .int 0, .int 0, .int 0, .int 0, .int 0, .int 0, .int 0, .ref q83, .ref q92, .null, .null, .null, .null, .null, .null, .null, .int 0])), (q13, .inl (cB, 16384, .inl (fun _ => 0))), (q22, .inl (cB, 16384, .inl (fun _ => 0))), (q31, .inl (cB, 16384, .inl (fun _ => 0))), (q40, .inl (cB, 200, .inl (fun _ => 0))), (q83, .inl (cI, 66, .inl (fun _ => 0))), (q92, .inl (cI, 16384, .inl (fun _ => 0))), (q101, .inl (cI, 16384, .inl (fun _ => 0)))] := hD
  refine W.widen (k := 7) (n := 82186) (by omega) (by omega) ?_
  refine va_putF (D := (dC, dI)) (ci := 8) (v := .ref q101) (ty := .array .int) (C := "SuffixIndexModel") (T := F_MD) (N := 22) hx hb hw i_MD t_MD t_MD_ok n_MD hown hK hP hD hS 0 rfl rfl 14 (by decide) (hw _ m_1115) (fun _ h9 => h9) rfl hin rfl (by decide +kernel) rfl rfl (Nat.le_of_ble_eq_true rfl) d_MD_init_103 (fun H locs hP hD hS => ?_)
  have hP : va_P (dC, dI) classes [(h_t, .inr (8, [.int 0, .ref q13, .ref q22, .ref q31, .ref q40, .int 0, .int 0, .int 0, .int 0, .int 0, .int 0, .int 0, .ref q83, .ref q92, .ref q101, .null, .null, .null, .null, .null, .null, .int 0])), (q13, .inl (cB, 16384, .inl (fun _ => 0))), (q22, .inl (cB, 16384, .inl (fun _ => 0))), (q31, .inl (cB, 16384, .inl (fun _ => 0))), (q40, .inl (cB, 200, .inl (fun _ => 0))), (q83, .inl (cI, 66, .inl (fun _ => 0))), (q92, .inl (cI, 16384, .inl (fun _ => 0))), (q101, .inl (cI, 16384, .inl (fun _ => 0)))] H := hP
  have hD : va_D A [(h_t, .inr (8, [.int 0, .ref q13, .ref q22, .ref q31, .ref q40, .int 0, .int 0, .int 0, .int 0, .int 0, .int 0, .int 0, .ref q83, .ref q92, .ref q101, .null, .null, .null, .null, .null, .null, .int 0])), (q13, .inl (cB, 16384, .inl (fun _ => 0))), (q22, .inl (cB, 16384, .inl (fun _ => 0))), (q31, .inl (cB, 16384, .inl (fun _ => 0))), (q40, .inl (cB, 200, .inl (fun _ => 0))), (q83, .inl (cI, 66, .inl (fun _ => 0))), (q92, .inl (cI, 16384, .inl (fun _ => 0))), (q101, .inl (cI, 16384, .inl (fun _ => 0)))] := hD
  refine lv_aload_n hx hb d_MD_init_106 rfl (lv_at hl 0 rfl) ?_
  refine lv_sipush (v := nI 16384) hx hb d_MD_init_107 (by decide) ?_
  refine nw_a (atype := .int) (ty := .int) (a0 := (16384, .inl (fun _ => 0))) hx hb (hw _ m_58) rfl hK hP hD hS hA 0 rfl (fun _ h => h) (fun _ => rfl) (nI_pos (by decide)) (nI_clamp (by decide)) (by decide) (by decide) (by decide) d_MD_init_110 (fun q110 H hP hD hS => ?_)
  have hP : va_P (dC, dI) classes [(h_t, .inr (8, [.int 0, .ref q13, .ref q22, .ref q31, .ref q40, .int 0, .int 0, .int 0, .int 0, .int 0, .int 0, .int 0, .ref q83, .ref q92, .ref q101, .null, .null, .null, .null, .null, .null, .int 0])), (q13, .inl (cB, 16384, .inl (fun _ => 0))), (q22, .inl (cB, 16384, .inl (fun _ => 0))), (q31, .inl (cB, 16384, .inl (fun _ => 0))), (q40, .inl (cB, 200, .inl (fun _ => 0))), (q83, .inl (cI, 66, .inl (fun _ => 0))), (q92, .inl (cI, 16384, .inl (fun _ => 0))), (q101, .inl (cI, 16384, .inl (fun _ => 0))), (q110, .inl (cI, 16384, .inl (fun _ => 0)))] H := hP
  have hD : va_D A [(h_t, .inr (8, [.int 0, .ref q13, .ref q22, .ref q31, .ref q40, .int 0, .int 0, .int 0, .int 0, .int 0, .int 0, .int 0, .ref q83, .ref q92, .ref q101, .null, .null, .null, .null, .null, .null, .int 0])), (q13, .inl (cB, 16384, .inl (fun _ => 0))), (q22, .inl (cB, 16384, .inl (fun _ => 0))), (q31, .inl (cB, 16384, .inl (fun _ => 0))), (q40, .inl (cB, 200, .inl (fun _ => 0))), (q83, .inl (cI, 66, .inl (fun _ => 0))), (q92, .inl (cI, 16384, .inl (fun _ => 0))), (q101, .inl (cI, 16384, .inl (fun _ => 0))), (q110, .inl (cI, 16384, .inl (fun _ => 0)))] := hD
  refine W.widen (k := 8) (n := 98570) (by omega) (by omega) ?_
  refine va_putF (D := (dC, dI)) (ci := 8) (v := .ref q110) (ty := .array .int) (C := "SuffixIndexModel") (T := F_MD) (N := 22) hx hb hw i_MD t_MD t_MD_ok n_MD hown hK hP hD hS 0 rfl rfl 15 (by decide) (hw _ m_1116) (fun _ h9 => h9) rfl hin rfl (by decide +kernel) rfl rfl (Nat.le_of_ble_eq_true rfl) d_MD_init_112 (fun H locs hP hD hS => ?_)
  have hP : va_P (dC, dI) classes [(h_t, .inr (8, [.int 0, .ref q13, .ref q22, .ref q31, .ref q40, .int 0, .int 0, .int 0, .int 0, .int 0, .int 0, .int 0, .ref q83, .ref q92, .ref q101, .ref q110, .null, .null, .null, .null, .null, .int 0])), (q13, .inl (cB, 16384, .inl (fun _ => 0))), (q22, .inl (cB, 16384, .inl (fun _ => 0))), (q31, .inl (cB, 16384, .inl (fun _ => 0))), (q40, .inl (cB, 200, .inl (fun _ => 0))), (q83, .inl (cI, 66, .inl (fun _ => 0))), (q92, .inl (cI, 16384, .inl (fun _ => 0))), (q101, .inl (cI, 16384, .inl (fun _ => 0))), (q110, .inl (cI, 16384, .inl (fun _ => 0)))] H := hP
  have hD : va_D A [(h_t, .inr (8, [.int 0, .ref q13, .ref q22, .ref q31, .ref q40, .int 0, .int 0, .int 0, .int 0, .int 0, .int 0, .int 0, .ref q83, .ref q92, .ref q101, .ref q110, .null, .null, .null, .null, .null, .int 0])), (q13, .inl (cB, 16384, .inl (fun _ => 0))), (q22, .inl (cB, 16384, .inl (fun _ => 0))), (q31, .inl (cB, 16384, .inl (fun _ => 0))), (q40, .inl (cB, 200, .inl (fun _ => 0))), (q83, .inl (cI, 66, .inl (fun _ => 0))), (q92, .inl (cI, 16384, .inl (fun _ => 0))), (q101, .inl (cI, 16384, .inl (fun _ => 0))), (q110, .inl (cI, 16384, .inl (fun _ => 0)))] := hD
  refine lv_aload_n hx hb d_MD_init_115 rfl (lv_at hl 0 rfl) ?_
  refine lv_sipush (v := nI 16385) hx hb d_MD_init_116 (by decide) ?_
  refine nw_a (atype := .int) (ty := .int) (a0 := (16385, .inl (fun _ => 0))) hx hb (hw _ m_58) rfl hK hP hD hS hA 0 rfl (fun _ h => h) (fun _ => rfl) (nI_pos (by decide)) (nI_clamp (by decide)) (by decide) (by decide) (by decide) d_MD_init_119 (fun q119 H hP hD hS => ?_)
  have hP : va_P (dC, dI) classes [(h_t, .inr (8, [.int 0, .ref q13, .ref q22, .ref q31, .ref q40, .int 0, .int 0, .int 0, .int 0, .int 0, .int 0, .int 0, .ref q83, .ref q92, .ref q101, .ref q110, .null, .null, .null, .null, .null, .int 0])), (q13, .inl (cB, 16384, .inl (fun _ => 0))), (q22, .inl (cB, 16384, .inl (fun _ => 0))), (q31, .inl (cB, 16384, .inl (fun _ => 0))), (q40, .inl (cB, 200, .inl (fun _ => 0))), (q83, .inl (cI, 66, .inl (fun _ => 0))), (q92, .inl (cI, 16384, .inl (fun _ => 0))), (q101, .inl (cI, 16384, .inl (fun _ => 0))), (q110, .inl (cI, 16384, .inl (fun _ => 0))), (q119, .inl (cI, 16385, .inl (fun _ => 0)))] H := hP
  have hD : va_D A [(h_t, .inr (8, [.int 0, .ref q13, .ref q22, .ref q31, .ref q40, .int 0, .int 0, .int 0, .int 0, .int 0, .int 0, .int 0, .ref q83, .ref q92, .ref q101, .ref q110, .null, .null, .null, .null, .null, .int 0])), (q13, .inl (cB, 16384, .inl (fun _ => 0))), (q22, .inl (cB, 16384, .inl (fun _ => 0))), (q31, .inl (cB, 16384, .inl (fun _ => 0))), (q40, .inl (cB, 200, .inl (fun _ => 0))), (q83, .inl (cI, 66, .inl (fun _ => 0))), (q92, .inl (cI, 16384, .inl (fun _ => 0))), (q101, .inl (cI, 16384, .inl (fun _ => 0))), (q110, .inl (cI, 16384, .inl (fun _ => 0))), (q119, .inl (cI, 16385, .inl (fun _ => 0)))] := hD
  refine W.widen (k := 9) (n := 114955) (by omega) (by omega) ?_
  refine va_putF (D := (dC, dI)) (ci := 8) (v := .ref q119) (ty := .array .int) (C := "SuffixIndexModel") (T := F_MD) (N := 22) hx hb hw i_MD t_MD t_MD_ok n_MD hown hK hP hD hS 0 rfl rfl 16 (by decide) (hw _ m_1117) (fun _ h9 => h9) rfl hin rfl (by decide +kernel) rfl rfl (Nat.le_of_ble_eq_true rfl) d_MD_init_121 (fun H locs hP hD hS => ?_)
  have hP : va_P (dC, dI) classes [(h_t, .inr (8, [.int 0, .ref q13, .ref q22, .ref q31, .ref q40, .int 0, .int 0, .int 0, .int 0, .int 0, .int 0, .int 0, .ref q83, .ref q92, .ref q101, .ref q110, .ref q119, .null, .null, .null, .null, .int 0])), (q13, .inl (cB, 16384, .inl (fun _ => 0))), (q22, .inl (cB, 16384, .inl (fun _ => 0))), (q31, .inl (cB, 16384, .inl (fun _ => 0))), (q40, .inl (cB, 200, .inl (fun _ => 0))), (q83, .inl (cI, 66, .inl (fun _ => 0))), (q92, .inl (cI, 16384, .inl (fun _ => 0))), (q101, .inl (cI, 16384, .inl (fun _ => 0))), (q110, .inl (cI, 16384, .inl (fun _ => 0))), (q119, .inl (cI, 16385, .inl (fun _ => 0)))] H := hP
  have hD : va_D A [(h_t, .inr (8, [.int 0, .ref q13, .ref q22, .ref q31, .ref q40, .int 0, .int 0, .int 0, .int 0, .int 0, .int 0, .int 0, .ref q83, .ref q92, .ref q101, .ref q110, .ref q119, .null, .null, .null, .null, .int 0])), (q13, .inl (cB, 16384, .inl (fun _ => 0))), (q22, .inl (cB, 16384, .inl (fun _ => 0))), (q31, .inl (cB, 16384, .inl (fun _ => 0))), (q40, .inl (cB, 200, .inl (fun _ => 0))), (q83, .inl (cI, 66, .inl (fun _ => 0))), (q92, .inl (cI, 16384, .inl (fun _ => 0))), (q101, .inl (cI, 16384, .inl (fun _ => 0))), (q110, .inl (cI, 16384, .inl (fun _ => 0))), (q119, .inl (cI, 16385, .inl (fun _ => 0)))] := hD
  refine lv_aload_n hx hb d_MD_init_124 rfl (lv_at hl 0 rfl) ?_
  refine lv_sipush (v := nI 16384) hx hb d_MD_init_125 (by decide) ?_
  refine nw_a (atype := .int) (ty := .int) (a0 := (16384, .inl (fun _ => 0))) hx hb (hw _ m_58) rfl hK hP hD hS hA 0 rfl (fun _ h => h) (fun _ => rfl) (nI_pos (by decide)) (nI_clamp (by decide)) (by decide) (by decide) (by decide) d_MD_init_128 (fun q128 H hP hD hS => ?_)
  have hP : va_P (dC, dI) classes [(h_t, .inr (8, [.int 0, .ref q13, .ref q22, .ref q31, .ref q40, .int 0, .int 0, .int 0, .int 0, .int 0, .int 0, .int 0, .ref q83, .ref q92, .ref q101, .ref q110, .ref q119, .null, .null, .null, .null, .int 0])), (q13, .inl (cB, 16384, .inl (fun _ => 0))), (q22, .inl (cB, 16384, .inl (fun _ => 0))), (q31, .inl (cB, 16384, .inl (fun _ => 0))), (q40, .inl (cB, 200, .inl (fun _ => 0))), (q83, .inl (cI, 66, .inl (fun _ => 0))), (q92, .inl (cI, 16384, .inl (fun _ => 0))), (q101, .inl (cI, 16384, .inl (fun _ => 0))), (q110, .inl (cI, 16384, .inl (fun _ => 0))), (q119, .inl (cI, 16385, .inl (fun _ => 0))), (q128, .inl (cI, 16384, .inl (fun _ => 0)))] H := hP
  have hD : va_D A [(h_t, .inr (8, [.int 0, .ref q13, .ref q22, .ref q31, .ref q40, .int 0, .int 0, .int 0, .int 0, .int 0, .int 0, .int 0, .ref q83, .ref q92, .ref q101, .ref q110, .ref q119, .null, .null, .null, .null, .int 0])), (q13, .inl (cB, 16384, .inl (fun _ => 0))), (q22, .inl (cB, 16384, .inl (fun _ => 0))), (q31, .inl (cB, 16384, .inl (fun _ => 0))), (q40, .inl (cB, 200, .inl (fun _ => 0))), (q83, .inl (cI, 66, .inl (fun _ => 0))), (q92, .inl (cI, 16384, .inl (fun _ => 0))), (q101, .inl (cI, 16384, .inl (fun _ => 0))), (q110, .inl (cI, 16384, .inl (fun _ => 0))), (q119, .inl (cI, 16385, .inl (fun _ => 0))), (q128, .inl (cI, 16384, .inl (fun _ => 0)))] := hD
  refine W.widen (k := 10) (n := 131339) (by omega) (by omega) ?_
  refine va_putF (D := (dC, dI)) (ci := 8) (v := .ref q128) (ty := .array .int) (C := "SuffixIndexModel") (T := F_MD) (N := 22) hx hb hw i_MD t_MD t_MD_ok n_MD hown hK hP hD hS 0 rfl rfl 17 (by decide) (hw _ m_1118) (fun _ h9 => h9) rfl hin rfl (by decide +kernel) rfl rfl (Nat.le_of_ble_eq_true rfl) d_MD_init_130 (fun H locs hP hD hS => ?_)
  have hP : va_P (dC, dI) classes [(h_t, .inr (8, [.int 0, .ref q13, .ref q22, .ref q31, .ref q40, .int 0, .int 0, .int 0, .int 0, .int 0, .int 0, .int 0, .ref q83, .ref q92, .ref q101, .ref q110, .ref q119, .ref q128, .null, .null, .null, .int 0])), (q13, .inl (cB, 16384, .inl (fun _ => 0))), (q22, .inl (cB, 16384, .inl (fun _ => 0))), (q31, .inl (cB, 16384, .inl (fun _ => 0))), (q40, .inl (cB, 200, .inl (fun _ => 0))), (q83, .inl (cI, 66, .inl (fun _ => 0))), (q92, .inl (cI, 16384, .inl (fun _ => 0))), (q101, .inl (cI, 16384, .inl (fun _ => 0))), (q110, .inl (cI, 16384, .inl (fun _ => 0))), (q119, .inl (cI, 16385, .inl (fun _ => 0))), (q128, .inl (cI, 16384, .inl (fun _ => 0)))] H := hP
  have hD : va_D A [(h_t, .inr (8, [.int 0, .ref q13, .ref q22, .ref q31, .ref q40, .int 0, .int 0, .int 0, .int 0, .int 0, .int 0, .int 0, .ref q83, .ref q92, .ref q101, .ref q110, .ref q119, .ref q128, .null, .null, .null, .int 0])), (q13, .inl (cB, 16384, .inl (fun _ => 0))), (q22, .inl (cB, 16384, .inl (fun _ => 0))), (q31, .inl (cB, 16384, .inl (fun _ => 0))), (q40, .inl (cB, 200, .inl (fun _ => 0))), (q83, .inl (cI, 66, .inl (fun _ => 0))), (q92, .inl (cI, 16384, .inl (fun _ => 0))), (q101, .inl (cI, 16384, .inl (fun _ => 0))), (q110, .inl (cI, 16384, .inl (fun _ => 0))), (q119, .inl (cI, 16385, .inl (fun _ => 0))), (q128, .inl (cI, 16384, .inl (fun _ => 0)))] := hD
  refine lv_aload_n hx hb d_MD_init_133 rfl (lv_at hl 0 rfl) ?_
  refine lv_sipush (v := nI 16384) hx hb d_MD_init_134 (by decide) ?_
  refine nw_a (atype := .int) (ty := .int) (a0 := (16384, .inl (fun _ => 0))) hx hb (hw _ m_58) rfl hK hP hD hS hA 0 rfl (fun _ h => h) (fun _ => rfl) (nI_pos (by decide)) (nI_clamp (by decide)) (by decide) (by decide) (by decide) d_MD_init_137 (fun q137 H hP hD hS => ?_)
  have hP : va_P (dC, dI) classes [(h_t, .inr (8, [.int 0, .ref q13, .ref q22, .ref q31, .ref q40, .int 0, .int 0, .int 0, .int 0, .int 0, .int 0, .int 0, .ref q83, .ref q92, .ref q101, .ref q110, .ref q119, .ref q128, .null, .null, .null, .int 0])), (q13, .inl (cB, 16384, .inl (fun _ => 0))), (q22, .inl (cB, 16384, .inl (fun _ => 0))), (q31, .inl (cB, 16384, .inl (fun _ => 0))), (q40, .inl (cB, 200, .inl (fun _ => 0))), (q83, .inl (cI, 66, .inl (fun _ => 0))), (q92, .inl (cI, 16384, .inl (fun _ => 0))), (q101, .inl (cI, 16384, .inl (fun _ => 0))), (q110, .inl (cI, 16384, .inl (fun _ => 0))), (q119, .inl (cI, 16385, .inl (fun _ => 0))), (q128, .inl (cI, 16384, .inl (fun _ => 0))), (q137, .inl (cI, 16384, .inl (fun _ => 0)))] H := hP
  have hD : va_D A [(h_t, .inr (8, [.int 0, .ref q13, .ref q22, .ref q31, .ref q40, .int 0, .int 0, .int 0, .int 0, .int 0, .int 0, .int 0, .ref q83, .ref q92, .ref q101, .ref q110, .ref q119, .ref q128, .null, .null, .null, .int 0])), (q13, .inl (cB, 16384, .inl (fun _ => 0))), (q22, .inl (cB, 16384, .inl (fun _ => 0))), (q31, .inl (cB, 16384, .inl (fun _ => 0))), (q40, .inl (cB, 200, .inl (fun _ => 0))), (q83, .inl (cI, 66, .inl (fun _ => 0))), (q92, .inl (cI, 16384, .inl (fun _ => 0))), (q101, .inl (cI, 16384, .inl (fun _ => 0))), (q110, .inl (cI, 16384, .inl (fun _ => 0))), (q119, .inl (cI, 16385, .inl (fun _ => 0))), (q128, .inl (cI, 16384, .inl (fun _ => 0))), (q137, .inl (cI, 16384, .inl (fun _ => 0)))] := hD
  refine W.widen (k := 11) (n := 147723) (by omega) (by omega) ?_
  refine va_putF (D := (dC, dI)) (ci := 8) (v := .ref q137) (ty := .array .int) (C := "SuffixIndexModel") (T := F_MD) (N := 22) hx hb hw i_MD t_MD t_MD_ok n_MD hown hK hP hD hS 0 rfl rfl 18 (by decide) (hw _ m_1119) (fun _ h9 => h9) rfl hin rfl (by decide +kernel) rfl rfl (Nat.le_of_ble_eq_true rfl) d_MD_init_139 (fun H locs hP hD hS => ?_)
  have hP : va_P (dC, dI) classes [(h_t, .inr (8, [.int 0, .ref q13, .ref q22, .ref q31, .ref q40, .int 0, .int 0, .int 0, .int 0, .int 0, .int 0, .int 0, .ref q83, .ref q92, .ref q101, .ref q110, .ref q119, .ref q128, .ref q137, .null, .null, .int 0])), (q13, .inl (cB, 16384, .inl (fun _ => 0))), (q22, .inl (cB, 16384, .inl (fun _ => 0))), (q31, .inl (cB, 16384, .inl (fun _ => 0))), (q40, .inl (cB, 200, .inl (fun _ => 0))), (q83, .inl (cI, 66, .inl (fun _ => 0))), (q92, .inl (cI, 16384, .inl (fun _ => 0))), (q101, .inl (cI, 16384, .inl (fun _ => 0))), (q110, .inl (cI, 16384, .inl (fun _ => 0))), (q119, .inl (cI, 16385, .inl (fun _ => 0))), (q128, .inl (cI, 16384, .inl (fun _ => 0))), (q137, .inl (cI, 16384, .inl (fun _ => 0)))] H := hP
  have hD : va_D A [(h_t, .inr (8, [.int 0, .ref q13, .ref q22, .ref q31, .ref q40, .int 0, .int 0, .int 0, .int 0, .int 0, .int 0, .int 0, .ref q83, .ref q92, .ref q101, .ref q110, .ref q119, .ref q128, .ref q137, .null, .null, .int 0])), (q13, .inl (cB, 16384, .inl (fun _ => 0))), (q22, .inl (cB, 16384, .inl (fun _ => 0))), (q31, .inl (cB, 16384, .inl (fun _ => 0))), (q40, .inl (cB, 200, .inl (fun _ => 0))), (q83, .inl (cI, 66, .inl (fun _ => 0))), (q92, .inl (cI, 16384, .inl (fun _ => 0))), (q101, .inl (cI, 16384, .inl (fun _ => 0))), (q110, .inl (cI, 16384, .inl (fun _ => 0))), (q119, .inl (cI, 16385, .inl (fun _ => 0))), (q128, .inl (cI, 16384, .inl (fun _ => 0))), (q137, .inl (cI, 16384, .inl (fun _ => 0)))] := hD
  refine lv_aload_n hx hb d_MD_init_142 rfl (lv_at hl 0 rfl) ?_
  refine lv_bipush (v := nI 64) hx hb d_MD_init_143 (by decide) ?_
  refine nw_a (atype := .int) (ty := .int) (a0 := (64, .inl (fun _ => 0))) hx hb (hw _ m_58) rfl hK hP hD hS hA 0 rfl (fun _ h => h) (fun _ => rfl) (nI_pos (by decide)) (nI_clamp (by decide)) (by decide) (by decide) (by decide) d_MD_init_145 (fun q145 H hP hD hS => ?_)
  have hP : va_P (dC, dI) classes [(h_t, .inr (8, [.int 0, .ref q13, .ref q22, .ref q31, .ref q40, .int 0, .int 0, .int 0, .int 0, .int 0, .int 0, .int 0, .ref q83, .ref q92, .ref q101, .ref q110, .ref q119, .ref q128, .ref q137, .null, .null, .int 0])), (q13, .inl (cB, 16384, .inl (fun _ => 0))), (q22, .inl (cB, 16384, .inl (fun _ => 0))), (q31, .inl (cB, 16384, .inl (fun _ => 0))), (q40, .inl (cB, 200, .inl (fun _ => 0))), (q83, .inl (cI, 66, .inl (fun _ => 0))), (q92, .inl (cI, 16384, .inl (fun _ => 0))), (q101, .inl (cI, 16384, .inl (fun _ => 0))), (q110, .inl (cI, 16384, .inl (fun _ => 0))), (q119, .inl (cI, 16385, .inl (fun _ => 0))), (q128, .inl (cI, 16384, .inl (fun _ => 0))), (q137, .inl (cI, 16384, .inl (fun _ => 0))), (q145, .inl (cI, 64, .inl (fun _ => 0)))] H := hP
  have hD : va_D A [(h_t, .inr (8, [.int 0, .ref q13, .ref q22, .ref q31, .ref q40, .int 0, .int 0, .int 0, .int 0, .int 0, .int 0, .int 0, .ref q83, .ref q92, .ref q101, .ref q110, .ref q119, .ref q128, .ref q137, .null, .null, .int 0])), (q13, .inl (cB, 16384, .inl (fun _ => 0))), (q22, .inl (cB, 16384, .inl (fun _ => 0))), (q31, .inl (cB, 16384, .inl (fun _ => 0))), (q40, .inl (cB, 200, .inl (fun _ => 0))), (q83, .inl (cI, 66, .inl (fun _ => 0))), (q92, .inl (cI, 16384, .inl (fun _ => 0))), (q101, .inl (cI, 16384, .inl (fun _ => 0))), (q110, .inl (cI, 16384, .inl (fun _ => 0))), (q119, .inl (cI, 16385, .inl (fun _ => 0))), (q128, .inl (cI, 16384, .inl (fun _ => 0))), (q137, .inl (cI, 16384, .inl (fun _ => 0))), (q145, .inl (cI, 64, .inl (fun _ => 0)))] := hD
  refine W.widen (k := 12) (n := 147787) (by omega) (by omega) ?_
  refine va_putF (D := (dC, dI)) (ci := 8) (v := .ref q145) (ty := .array .int) (C := "SuffixIndexModel") (T := F_MD) (N := 22) hx hb hw i_MD t_MD t_MD_ok n_MD hown hK hP hD hS 0 rfl rfl 19 (by decide) (hw _ m_1120) (fun _ h9 => h9) rfl hin rfl (by decide +kernel) rfl rfl (Nat.le_of_ble_eq_true rfl) d_MD_init_147 (fun H locs hP hD hS => ?_)
  have hP : va_P (dC, dI) classes [(h_t, .inr (8, [.int 0, .ref q13, .ref q22, .ref q31, .ref q40, .int 0, .int 0, .int 0, .int 0, .int 0, .int 0, .int 0, .ref q83, .ref q92, .ref q101, .ref q110, .ref q119, .ref q128, .ref q137, .ref q145, .null, .int 0])), (q13, .inl (cB, 16384, .inl (fun _ => 0))), (q22, .inl (cB, 16384, .inl (fun _ => 0))), (q31, .inl (cB, 16384, .inl (fun _ => 0))), (q40, .inl (cB, 200, .inl (fun _ => 0))), (q83, .inl (cI, 66, .inl (fun _ => 0))), (q92, .inl (cI, 16384, .inl (fun _ => 0))), (q101, .inl (cI, 16384, .inl (fun _ => 0))), (q110, .inl (cI, 16384, .inl (fun _ => 0))), (q119, .inl (cI, 16385, .inl (fun _ => 0))), (q128, .inl (cI, 16384, .inl (fun _ => 0))), (q137, .inl (cI, 16384, .inl (fun _ => 0))), (q145, .inl (cI, 64, .inl (fun _ => 0)))] H := hP
  have hD : va_D A [(h_t, .inr (8, [.int 0, .ref q13, .ref q22, .ref q31, .ref q40, .int 0, .int 0, .int 0, .int 0, .int 0, .int 0, .int 0, .ref q83, .ref q92, .ref q101, .ref q110, .ref q119, .ref q128, .ref q137, .ref q145, .null, .int 0])), (q13, .inl (cB, 16384, .inl (fun _ => 0))), (q22, .inl (cB, 16384, .inl (fun _ => 0))), (q31, .inl (cB, 16384, .inl (fun _ => 0))), (q40, .inl (cB, 200, .inl (fun _ => 0))), (q83, .inl (cI, 66, .inl (fun _ => 0))), (q92, .inl (cI, 16384, .inl (fun _ => 0))), (q101, .inl (cI, 16384, .inl (fun _ => 0))), (q110, .inl (cI, 16384, .inl (fun _ => 0))), (q119, .inl (cI, 16385, .inl (fun _ => 0))), (q128, .inl (cI, 16384, .inl (fun _ => 0))), (q137, .inl (cI, 16384, .inl (fun _ => 0))), (q145, .inl (cI, 64, .inl (fun _ => 0)))] := hD
  refine lv_aload_n hx hb d_MD_init_150 rfl (lv_at hl 0 rfl) ?_
  refine lv_bipush (v := nI 64) hx hb d_MD_init_151 (by decide) ?_
  refine nw_a (atype := .boolean) (ty := .boolean) (a0 := (64, .inl (fun _ => 0))) hx hb (hw _ m_1168) rfl hK hP hD hS hA 3 rfl (fun _ h => h) (fun _ => rfl) (nI_pos (by decide)) (nI_clamp (by decide)) (by decide) (by decide) (by decide) d_MD_init_153 (fun q153 H hP hD hS => ?_)
  have hP : va_P (dC, dI) classes [(h_t, .inr (8, [.int 0, .ref q13, .ref q22, .ref q31, .ref q40, .int 0, .int 0, .int 0, .int 0, .int 0, .int 0, .int 0, .ref q83, .ref q92, .ref q101, .ref q110, .ref q119, .ref q128, .ref q137, .ref q145, .null, .int 0])), (q13, .inl (cB, 16384, .inl (fun _ => 0))), (q22, .inl (cB, 16384, .inl (fun _ => 0))), (q31, .inl (cB, 16384, .inl (fun _ => 0))), (q40, .inl (cB, 200, .inl (fun _ => 0))), (q83, .inl (cI, 66, .inl (fun _ => 0))), (q92, .inl (cI, 16384, .inl (fun _ => 0))), (q101, .inl (cI, 16384, .inl (fun _ => 0))), (q110, .inl (cI, 16384, .inl (fun _ => 0))), (q119, .inl (cI, 16385, .inl (fun _ => 0))), (q128, .inl (cI, 16384, .inl (fun _ => 0))), (q137, .inl (cI, 16384, .inl (fun _ => 0))), (q145, .inl (cI, 64, .inl (fun _ => 0))), (q153, .inl (cZ, 64, .inl (fun _ => 0)))] H := hP
  have hD : va_D A [(h_t, .inr (8, [.int 0, .ref q13, .ref q22, .ref q31, .ref q40, .int 0, .int 0, .int 0, .int 0, .int 0, .int 0, .int 0, .ref q83, .ref q92, .ref q101, .ref q110, .ref q119, .ref q128, .ref q137, .ref q145, .null, .int 0])), (q13, .inl (cB, 16384, .inl (fun _ => 0))), (q22, .inl (cB, 16384, .inl (fun _ => 0))), (q31, .inl (cB, 16384, .inl (fun _ => 0))), (q40, .inl (cB, 200, .inl (fun _ => 0))), (q83, .inl (cI, 66, .inl (fun _ => 0))), (q92, .inl (cI, 16384, .inl (fun _ => 0))), (q101, .inl (cI, 16384, .inl (fun _ => 0))), (q110, .inl (cI, 16384, .inl (fun _ => 0))), (q119, .inl (cI, 16385, .inl (fun _ => 0))), (q128, .inl (cI, 16384, .inl (fun _ => 0))), (q137, .inl (cI, 16384, .inl (fun _ => 0))), (q145, .inl (cI, 64, .inl (fun _ => 0))), (q153, .inl (cZ, 64, .inl (fun _ => 0)))] := hD
  refine W.widen (k := 13) (n := 147851) (by omega) (by omega) ?_
  refine va_putF (D := (dC, dI)) (ci := 8) (v := .ref q153) (ty := .array .boolean) (C := "SuffixIndexModel") (T := F_MD) (N := 22) hx hb hw i_MD t_MD t_MD_ok n_MD hown hK hP hD hS 0 rfl rfl 20 (by decide) (hw _ m_1121) (fun _ h9 => h9) rfl hin rfl (by decide +kernel) rfl rfl (Nat.le_of_ble_eq_true rfl) d_MD_init_155 (fun H locs hP hD hS => ?_)
  have hP : va_P (dC, dI) classes [(h_t, .inr (8, [.int 0, .ref q13, .ref q22, .ref q31, .ref q40, .int 0, .int 0, .int 0, .int 0, .int 0, .int 0, .int 0, .ref q83, .ref q92, .ref q101, .ref q110, .ref q119, .ref q128, .ref q137, .ref q145, .ref q153, .int 0])), (q13, .inl (cB, 16384, .inl (fun _ => 0))), (q22, .inl (cB, 16384, .inl (fun _ => 0))), (q31, .inl (cB, 16384, .inl (fun _ => 0))), (q40, .inl (cB, 200, .inl (fun _ => 0))), (q83, .inl (cI, 66, .inl (fun _ => 0))), (q92, .inl (cI, 16384, .inl (fun _ => 0))), (q101, .inl (cI, 16384, .inl (fun _ => 0))), (q110, .inl (cI, 16384, .inl (fun _ => 0))), (q119, .inl (cI, 16385, .inl (fun _ => 0))), (q128, .inl (cI, 16384, .inl (fun _ => 0))), (q137, .inl (cI, 16384, .inl (fun _ => 0))), (q145, .inl (cI, 64, .inl (fun _ => 0))), (q153, .inl (cZ, 64, .inl (fun _ => 0)))] H := hP
  have hD : va_D A [(h_t, .inr (8, [.int 0, .ref q13, .ref q22, .ref q31, .ref q40, .int 0, .int 0, .int 0, .int 0, .int 0, .int 0, .int 0, .ref q83, .ref q92, .ref q101, .ref q110, .ref q119, .ref q128, .ref q137, .ref q145, .ref q153, .int 0])), (q13, .inl (cB, 16384, .inl (fun _ => 0))), (q22, .inl (cB, 16384, .inl (fun _ => 0))), (q31, .inl (cB, 16384, .inl (fun _ => 0))), (q40, .inl (cB, 200, .inl (fun _ => 0))), (q83, .inl (cI, 66, .inl (fun _ => 0))), (q92, .inl (cI, 16384, .inl (fun _ => 0))), (q101, .inl (cI, 16384, .inl (fun _ => 0))), (q110, .inl (cI, 16384, .inl (fun _ => 0))), (q119, .inl (cI, 16385, .inl (fun _ => 0))), (q128, .inl (cI, 16384, .inl (fun _ => 0))), (q137, .inl (cI, 16384, .inl (fun _ => 0))), (q145, .inl (cI, 64, .inl (fun _ => 0))), (q153, .inl (cZ, 64, .inl (fun _ => 0)))] := hD
  refine lv_aload_n hx hb d_MD_init_158 rfl (lv_at hl 0 rfl) ?_
  refine lv_iconst (v := 0) hx hb d_MD_init_159 (by decide) ?_
  refine va_put (D := (dC, dI)) (ci := 8) (v := .int 0) (ty := .int) (C := "SuffixIndexModel") (T := F_MD) (N := 22) hx hb hw i_MD t_MD t_MD_ok n_MD hown hK hP hD hS 0 rfl rfl 21 (by decide) (hw _ m_1122) (fun _ h9 => h9) rfl (by decide +kernel) rfl rfl (Nat.le_of_ble_eq_true rfl) d_MD_init_160 (fun H locs hP hD hS => ?_)
  have hP : va_P (dC, dI) classes [(h_t, .inr (8, [.int 0, .ref q13, .ref q22, .ref q31, .ref q40, .int 0, .int 0, .int 0, .int 0, .int 0, .int 0, .int 0, .ref q83, .ref q92, .ref q101, .ref q110, .ref q119, .ref q128, .ref q137, .ref q145, .ref q153, .int 0])), (q13, .inl (cB, 16384, .inl (fun _ => 0))), (q22, .inl (cB, 16384, .inl (fun _ => 0))), (q31, .inl (cB, 16384, .inl (fun _ => 0))), (q40, .inl (cB, 200, .inl (fun _ => 0))), (q83, .inl (cI, 66, .inl (fun _ => 0))), (q92, .inl (cI, 16384, .inl (fun _ => 0))), (q101, .inl (cI, 16384, .inl (fun _ => 0))), (q110, .inl (cI, 16384, .inl (fun _ => 0))), (q119, .inl (cI, 16385, .inl (fun _ => 0))), (q128, .inl (cI, 16384, .inl (fun _ => 0))), (q137, .inl (cI, 16384, .inl (fun _ => 0))), (q145, .inl (cI, 64, .inl (fun _ => 0))), (q153, .inl (cZ, 64, .inl (fun _ => 0)))] H := hP
  have hD : va_D A [(h_t, .inr (8, [.int 0, .ref q13, .ref q22, .ref q31, .ref q40, .int 0, .int 0, .int 0, .int 0, .int 0, .int 0, .int 0, .ref q83, .ref q92, .ref q101, .ref q110, .ref q119, .ref q128, .ref q137, .ref q145, .ref q153, .int 0])), (q13, .inl (cB, 16384, .inl (fun _ => 0))), (q22, .inl (cB, 16384, .inl (fun _ => 0))), (q31, .inl (cB, 16384, .inl (fun _ => 0))), (q40, .inl (cB, 200, .inl (fun _ => 0))), (q83, .inl (cI, 66, .inl (fun _ => 0))), (q92, .inl (cI, 16384, .inl (fun _ => 0))), (q101, .inl (cI, 16384, .inl (fun _ => 0))), (q110, .inl (cI, 16384, .inl (fun _ => 0))), (q119, .inl (cI, 16385, .inl (fun _ => 0))), (q128, .inl (cI, 16384, .inl (fun _ => 0))), (q137, .inl (cI, 16384, .inl (fun _ => 0))), (q145, .inl (cI, 64, .inl (fun _ => 0))), (q153, .inl (cZ, 64, .inl (fun _ => 0)))] := hD
  have hP9 : va_P (dC, dI) classes [(h_t, .inr (8, [.int 0, .ref q13, .ref q22, .ref q31, .ref q40, .int 0, .int 0, .int 0, .int 0, .int 0, .int 0, .int 0, .ref q83, .ref q92, .ref q101, .ref q110, .ref q119, .ref q128, .ref q137, .ref q145, .ref q153, .int 0])), (q13, .inl (cB, 16384, .inl (fun _ => 0))), (q22, .inl (cB, 16384, .inl (fun _ => 0))), (q31, .inl (cB, 16384, .inl (fun _ => 0))), (q40, .inl (cB, 200, .inl (fun _ => 0))), (q83, .inl (cI, 66, .inl (fun _ => 0))), (q92, .inl (cI, 16384, .inl (fun _ => 0))), (q101, .inl (cI, 16384, .inl (fun _ => 0))), (q110, .inl (cI, 16384, .inl (fun _ => 0))), (q119, .inl (cI, 16385, .inl (fun _ => 0))), (q128, .inl (cI, 16384, .inl (fun _ => 0))), (q137, .inl (cI, 16384, .inl (fun _ => 0))), (q145, .inl (cI, 64, .inl (fun _ => 0))), (q153, .inl (cZ, 64, .inl (fun _ => 0)))] H := P_sub hP [0, 1, 2, 3, 4, 5, 6, 7, 8, 9, 10, 11, 12, 13] rfl
  have hD9 : va_D A [(h_t, .inr (8, [.int 0, .ref q13, .ref q22, .ref q31, .ref q40, .int 0, .int 0, .int 0, .int 0, .int 0, .int 0, .int 0, .ref q83, .ref q92, .ref q101, .ref q110, .ref q119, .ref q128, .ref q137, .ref q145, .ref q153, .int 0])), (q13, .inl (cB, 16384, .inl (fun _ => 0))), (q22, .inl (cB, 16384, .inl (fun _ => 0))), (q31, .inl (cB, 16384, .inl (fun _ => 0))), (q40, .inl (cB, 200, .inl (fun _ => 0))), (q83, .inl (cI, 66, .inl (fun _ => 0))), (q92, .inl (cI, 16384, .inl (fun _ => 0))), (q101, .inl (cI, 16384, .inl (fun _ => 0))), (q110, .inl (cI, 16384, .inl (fun _ => 0))), (q119, .inl (cI, 16385, .inl (fun _ => 0))), (q128, .inl (cI, 16384, .inl (fun _ => 0))), (q137, .inl (cI, 16384, .inl (fun _ => 0))), (q145, .inl (cI, 64, .inl (fun _ => 0))), (q153, .inl (cZ, 64, .inl (fun _ => 0)))] := hD.sub [0, 1, 2, 3, 4, 5, 6, 7, 8, 9, 10, 11, 12, 13] rfl rfl
  exact W.vret hx hb hr (fun t ht hW => ⟨⟨(q13, q22, q31, q40, q83, q92, q101, q110, q119, q128, q137, q145, q153), rfl, trivial, by rw [ht]; exact hP9, va_K.moved hW.alike hK, hD9⟩, hS.F ht⟩) hS.2.2 d_MD_init_163
