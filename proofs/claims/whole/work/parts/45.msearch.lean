/-! seek, found, near, matched of the reference -/
theorem m_ok {k : Int32} {th : Int32} {post : Int32 → Int32 → Prop} (h : post (nI 0) th) : vc_MD_refuse k 0 post th := by
  unfold vc_MD_refuse
  exact ⟨fun _ => ⟨by decide, h⟩, fun q => absurd rfl q⟩
theorem m_no {k : Int32} {th : Int32} {post : Int32 → Int32 → Prop} (h : post (nI 1) k) : vc_MD_refuse k 1 post th := by
  unfold vc_MD_refuse
  exact ⟨fun q => absurd q (by decide), fun _ => ⟨by decide, h⟩⟩
theorem nar_bs (k : Nat) : vp_nar .byte (bs k) = bs k := pk_vb _
theorem std_iff {K ow cs sk : Nat → Nat} {n m p : Nat} (hd : DocOk K ow cs n) (hsk : ∀ i, i < m → 64 ≤ sk i ∧ sk i < 320) (hm : m ≤ 200) (hp : p < cs n) : std K (cs n) sk m p = true ↔ 1 ≤ m ∧ m ≤ lenf ow cs p ∧ ∀ i, i < m → K (p + i) = sk i := by
  have a := lw_ex hd hsk hm (Nat.zero_le m) hp
  unfold std
  simp only [decide_eq_true_eq]
  constructor
  · rintro ⟨h1, h2⟩
    refine ⟨h1, by omega, fun i hi => ?_⟩
    have := a.2.2.1 i (by omega)
    rw [Nat.zero_add] at this
    exact this.symm
  · rintro ⟨h1, h2, h3⟩
    refine ⟨h1, ?_⟩
    rw [lw_is hd hsk hm hp (l := m) (by omega) h2 (fun i hi => by rw [Nat.zero_add, h3 i hi]) (Or.inl (by omega))]
    exact Nat.le_refl _
theorem m_row {row start dof : Nat → Int32} {K ow cs dm : Nat → Nat} {n x i : Nat} (h : LibM row start dof K ow cs dm n) (hx : x < cs n - n) (hi : i < lenf ow cs (x + dm x)) : row (x + i) = bs (K (x + dm x + i)) ∧ x + i < cs n - n ∧ 64 ≤ K (x + dm x + i) ∧ K (x + dm x + i) < 320 := by
  have a := dm_next h.1 h.2.1 hx hi
  have b := doc_in h.1 (dm_at h.1 h.2.1 hx).2.1 hi
  refine ⟨?_, a.1, b.2.2.1, b.2.2.2.1⟩
  rw [h.2.2.1 _ a.1, a.2.1, show x + i + dm x = x + dm x + i by omega]
theorem m_stands {row start dof sz : Nat → Int32} {K ow cs dm sk : Nat → Nat} {n m x : Nat} (h : LibM row start dof K ow cs dm n) (hsk : ∀ i, i < m → 64 ≤ sk i ∧ sk i < 320) (hsz : ∀ i, i < m → sz i = bs (sk i)) (hm1 : 1 ≤ m) (hm : m ≤ 200) (hx : x < cs n - n)
    {post : Int32 → Prop} (h1 : std K (cs n) sk m (x + dm x) = true → post (nI 1)) (h0 : std K (cs n) sk m (x + dm x) = false → post (nI 0)) : vc_MD_stands (nI x) (nI m) row sz start dof post := by
  have hd := h.1
  have hS := doc_S hd
  have a := dm_at hd h.2.1 hx
  have si := std_iff hd hsk hm a.2.1
  unfold vc_MD_stands
  refine m_endOf h hx ?_
  simp (disch := omega) only [li0, li1, li2, li3, li4, li5, li6, li7, li8, li16, li20, li24, li31, li63, li64, li65, li200, li255, li256, li320, li16384, li16448, li65535, li65536, nI_add, nI_subI, nI_mulI, nI_ltI, nI_leI, nI_eq, nI_clamp, vpI, nI_maxN, nI_minN, ls_nI, half_nI, nI_addneg]
  refine ⟨fun q => ⟨m + 1, ?_⟩, fun q => h0 ?_⟩
  · have key : ∀ f i, i + f = m → (∀ j, j < i → K (x + dm x + j) = sk j) → vc_MD_stands_18 (nI x) (nI m) row sz start dof post (f + 1) (nI i) := by
      intro f
      induction f with
      | zero =>
        intro i hi hs
        rw [vc_MD_stands_18]
        simp (disch := omega) only [li0, li1, li2, li3, li4, li5, li6, li7, li8, li16, li20, li24, li31, li63, li64, li65, li200, li255, li256, li320, li16384, li16448, li65535, li65536, nI_add, nI_subI, nI_mulI, nI_ltI, nI_leI, nI_eq, nI_clamp, vpI, nI_maxN, nI_minN, ls_nI, half_nI, nI_addneg]
        exact ⟨fun _ => h1 (si.mpr ⟨hm1, by omega, fun j hj => hs j (by omega)⟩), fun q => absurd (by omega) q⟩
      | succ f ih =>
        intro i hi hs
        have r := m_row h hx (show i < lenf ow cs (x + dm x) by omega)
        have k := hsk i (by omega)
        rw [vc_MD_stands_18]
        simp (disch := omega) only [li0, li1, li2, li3, li4, li5, li6, li7, li8, li16, li20, li24, li31, li63, li64, li65, li200, li255, li256, li320, li16384, li16448, li65535, li65536, nI_add, nI_subI, nI_mulI, nI_ltI, nI_leI, nI_eq, nI_clamp, vpI, nI_maxN, nI_minN, ls_nI, half_nI, nI_addneg]
        rw [r.1, hsz i (by omega), bs_eq r.2.2.1 r.2.2.2 k.1 k.2]
        refine ⟨fun q => by omega, fun _ => ⟨by omega, by omega, fun g => ih (i + 1) (by omega) (fun j hj => ?_), fun g => h0 ?_⟩⟩
        · by_cases e : j = i
          · rw [e]; exact g
          · exact hs j (by omega)
        · have : ¬ std K (cs n) sk m (x + dm x) = true := fun e => g ((si.mp e).2.2 i (by omega))
          simpa using this
    exact key m 0 (by omega) (fun j hj => by omega)
  · have : ¬ std K (cs n) sk m (x + dm x) = true := fun e => by have := (si.mp e).2.1; omega
    simpa using this
theorem m_seek {row start dof tz sz : Nat → Int32} {K ow cs dm sk : Nat → Nat} {n m : Nat} (h : LibM row start dof K ow cs dm n) (hsk : ∀ i, i < m → 64 ≤ sk i ∧ sk i < 320) (htz : ∀ i, i < m → tz i = bs (sk i)) (hm : m ≤ 16384) {th sg : Int32}
    {post : Int32 → Int32 → Int32 → Int32 → (Nat → Int32) → Prop} (h1 : 1 ≤ m → m ≤ 200 → ∀ sz', (∀ i, i < m → sz' i = bs (sk i)) → post (nI (cnt (std K (cs n) sk m) (cs n))) 0 0 (nI m) sz')
    (h0 : m < 1 ∨ 200 < m → post 0 1 (nI m) sg sz) : vc_MD_seek (nI (cs n - n)) tz row start dof post th (nI m) sg sz := by
  have hd := h.1
  have hS := doc_S hd
  unfold vc_MD_seek vc_MD_seek_25 vc_MD_seek_30
  have e1 : nI m < 1 ↔ m < 1 := nI_ltI (a := m) (b := 1) (by omega) (by omega)
  have e2 : nI m ≤ 200 ↔ m ≤ 200 := nI_leI (a := m) (b := 200) (by omega) (by omega)
  rw [e1, e2]
  have bad : m < 1 ∨ 200 < m → vc_MD_refuse 1 1 (fun r5 u5_0 => ((r5 = 0 → ∃ j : Nat, vc_MD_seek_40 (nI (cs n - n)) tz row start dof post j 0 u5_0 (nI m) sg sz) ∧ (¬ (r5 = 0) → post 0 u5_0 (nI m) sg sz))) 0 := by
    intro q
    exact m_no ⟨fun e => absurd e (by decide), fun _ => h0 q⟩
  refine ⟨fun q => bad (Or.inl q), fun q => ⟨fun q2 => m_ok ⟨fun _ => ⟨m + 1, ?_⟩, fun e => absurd rfl e⟩, fun q2 => bad (Or.inr (by omega))⟩⟩
  have hP : ∀ p, p < cs n → K p < 64 → std K (cs n) sk m p = false := fun p hp hk => std_mark hd hsk q2 hp hk
  have key83 : ∀ sz', (∀ i, i < m → sz' i = bs (sk i)) → ∀ f x, x + f = cs n - n → vc_MD_seek_83 (nI (cs n - n)) tz row start dof post (f + 1) (nI (cnt (fun y => std K (cs n) sk m (y + dm y)) x)) (nI x) 0 0 (nI m) sz' := by
    intro sz' hsz' f
    induction f with
    | zero =>
      intro x hx
      rw [vc_MD_seek_83, nI_leI (by omega) (by omega)]
      refine ⟨fun _ => ?_, fun q => absurd (by omega) q⟩
      rw [show x = cs n - n by omega, ← cnt_cpN hd h.2.1 hP]
      exact h1 (by omega) q2 sz' hsz'
    | succ f ih =>
      intro x hx
      rw [vc_MD_seek_83, nI_leI (by omega) (by omega)]
      unfold vc_MD_seek_102
      refine ⟨fun q => by omega, fun _ => m_stands h hsk hsz' (by omega) q2 (by omega) (fun e => ⟨fun g => absurd g (by decide), fun _ => ?_⟩) (fun e => ⟨fun _ => ?_, fun g => absurd rfl g⟩)⟩
      · rw [nI_1, nI_1]
        have := ih (x + 1) (by omega)
        have e2 : cnt (fun y => std K (cs n) sk m (y + dm y)) (x + 1) = cnt (fun y => std K (cs n) sk m (y + dm y)) x + 1 := by
          show _ + (if std K (cs n) sk m (x + dm x) = true then 1 else 0) = _
          rw [if_pos e]
        rw [e2] at this
        exact this
      · rw [nI_1]
        have := ih (x + 1) (by omega)
        have e2 : cnt (fun y => std K (cs n) sk m (y + dm y)) (x + 1) = cnt (fun y => std K (cs n) sk m (y + dm y)) x := by
          show _ + (if std K (cs n) sk m (x + dm x) = true then 1 else 0) = _
          rw [e]; rfl
        rw [e2] at this
        exact this
  have key40 : ∀ f i, i + f = m → ∀ sz', (∀ j, j < i → sz' j = bs (sk j)) → vc_MD_seek_40 (nI (cs n - n)) tz row start dof post (f + 1) (nI i) 0 (nI m) sg sz' := by
    intro f
    induction f with
    | zero =>
      intro i hi sz' hsz'
      rw [vc_MD_seek_40, nI_leI (by omega) (by omega)]
      exact ⟨fun _ => ⟨cs n - n + 1, key83 sz' (fun j hj => hsz' j (by omega)) (cs n - n) 0 (by omega)⟩, fun q => absurd (by omega) q⟩
    | succ f ih =>
      intro i hi sz' hsz'
      rw [vc_MD_seek_40, nI_leI (by omega) (by omega)]
      refine ⟨fun q => by omega, fun _ => ⟨(vpI (by omega)).mpr (by omega), (vpI (by omega)).mpr (by omega), ?_⟩⟩
      rw [nI_clamp (by omega), htz i (by omega), nar_bs, nI_1]
      refine ih (i + 1) (by omega) _ (fun j hj => ?_)
      by_cases e : j = i
      · rw [e, upS]
      · rw [upN e]; exact hsz' j (by omega)
  exact key40 m 0 (by omega) sz (fun j hj => by omega)
theorem m_where {row start dof : Nat → Int32} {K ow cs dm : Nat → Nat} {n x : Nat} (h : LibM row start dof K ow cs dm n) (hx : x < cs n - n) {post : Int32 → Prop} (hp : post (nI (ow (x + dm x) * 65536 + (x + dm x) - cs (ow (x + dm x))))) : vc_MD_where (nI x) start dof post := by
  have hd := h.1
  have hS := doc_S hd
  have h64 := hd.2.2.2.1
  have a := dm_at hd h.2.1 hx
  have ho := h.2.2.2.1
  have hs := h.2.2.2.2
  rw [a.2.2.1] at hp
  have hc := doc_mono hd (show 0 ≤ dm x by omega) (show dm x ≤ n by omega)
  unfold vc_MD_where
  simp (disch := omega) only [li0, li1, li2, li3, li4, li5, li6, li7, li8, li16, li20, li24, li31, li63, li64, li65, li200, li255, li256, li320, li16384, li16448, li65535, li65536, nI_add, nI_subI, nI_mulI, nI_ltI, nI_leI, nI_eq, nI_clamp, vpI, nI_maxN, nI_minN, ls_nI, half_nI, nI_addneg, ho, hs]
  refine ⟨by omega, by omega, by omega, ?_⟩
  rw [show 65536 * dm x + x - (cs (dm x) - dm x) = dm x * 65536 + (x + dm x) - cs (dm x) by omega]
  exact hp
theorem m_found {row start dof sz : Nat → Int32} {K ow cs dm sk : Nat → Nat} {n m : Nat} (h : LibM row start dof K ow cs dm n) (hsk : ∀ i, i < m → 64 ≤ sk i ∧ sk i < 320) (hsz : ∀ i, i < m → sz i = bs (sk i)) (hm : m ≤ 200) {i th : Int32}
    {post : Int32 → Int32 → Prop} (h1 : ∀ x, x < cs n - n → std K (cs n) sk m (x + dm x) = true → nI (cnt (std K (cs n) sk m) (x + dm x)) = i → post (nI (ow (x + dm x) * 65536 + (x + dm x) - cs (ow (x + dm x)))) 0)
    (h0 : (∀ x, x < cs n - n → std K (cs n) sk m (x + dm x) = true → nI (cnt (std K (cs n) sk m) (x + dm x)) ≠ i) → post 0 1) : vc_MD_found i (nI m) (nI (cs n - n)) row sz start dof post th := by
  have hd := h.1
  have hS := doc_S hd
  have hP : ∀ p, p < cs n → K p < 64 → std K (cs n) sk m p = false := fun p hp hk => std_mark hd hsk hm hp hk
  have no : (∀ x, x < cs n - n → std K (cs n) sk m (x + dm x) = true → nI (cnt (std K (cs n) sk m) (x + dm x)) ≠ i) → vc_MD_found_55 i (nI m) (nI (cs n - n)) row sz start dof post 0 := by
    intro g
    unfold vc_MD_found_55
    exact m_no (h0 g)
  have key : ∀ f x, x + f = cs n - n → (∀ y, y < x → std K (cs n) sk m (y + dm y) = true → nI (cnt (std K (cs n) sk m) (y + dm y)) ≠ i) → vc_MD_found_9 i (nI m) (nI (cs n - n)) row sz start dof post (f + 1) (nI (cnt (fun y => std K (cs n) sk m (y + dm y)) x)) (nI x) 0 := by
    intro f
    induction f with
    | zero =>
      intro x hx hno
      rw [vc_MD_found_9, nI_leI (by omega) (by omega)]
      exact ⟨fun _ => no (fun y hy => hno y (by omega)), fun q => absurd (by omega) q⟩
    | succ f ih =>
      intro x hx hno
      rw [vc_MD_found_9, nI_leI (by omega) (by omega)]
      refine ⟨fun q => by omega, fun _ => ⟨fun q => no (fun y hy hs => ?_), fun q => ?_⟩⟩
      · rw [li0, nI_leI (by omega) (by omega)] at q
        unfold std at hs
        simp only [decide_eq_true_eq] at hs
        omega
      · rw [li0, nI_leI (by omega) (by omega)] at q
        unfold vc_MD_found_49
        refine m_stands h hsk hsz (by omega) hm (by omega) (fun e => ⟨fun _ => ?_, fun g => absurd g (by decide)⟩) (fun e => ⟨fun g => absurd rfl g, fun _ => ?_⟩)
        · have cx := cnt_cpx hd h.2.1 hP (show x < cs n - n by omega)
          refine ⟨fun g => ?_, fun g => m_where h (by omega) (h1 x (by omega) e (by rw [cx]; exact g))⟩
          rw [nI_1, nI_1]
          have := ih (x + 1) (by omega) (fun y hy hs => ?_)
          · have e2 : cnt (fun y => std K (cs n) sk m (y + dm y)) (x + 1) = cnt (fun y => std K (cs n) sk m (y + dm y)) x + 1 := by
              show _ + (if std K (cs n) sk m (x + dm x) = true then 1 else 0) = _
              rw [if_pos e]
            rw [e2] at this
            exact this
          · by_cases e3 : y = x
            · rw [e3, cx]; exact g
            · exact hno y (by omega) hs
        · rw [nI_1]
          have := ih (x + 1) (by omega) (fun y hy hs => ?_)
          · have e2 : cnt (fun y => std K (cs n) sk m (y + dm y)) (x + 1) = cnt (fun y => std K (cs n) sk m (y + dm y)) x := by
              show _ + (if std K (cs n) sk m (x + dm x) = true then 1 else 0) = _
              rw [e]; rfl
            rw [e2] at this
            exact this
          · by_cases e3 : y = x
            · rw [e3, e] at hs
              exact absurd hs (by simp)
            · exact hno y (by omega) hs
  exact ⟨cs n - n + 1, key (cs n - n) 0 (by omega) (fun y hy => by omega)⟩
theorem m_tell {row start dof : Nat → Int32} {K ow cs dm : Nat → Nat} {n x l : Nat} (h : LibM row start dof K ow cs dm n) (hx : x < cs n - n) (hl : l ≤ lenf ow cs (x + dm x)) {oz : Nat → Int32} {on : Int32}
    {post : Int32 → (Nat → Int32) → Prop} (hp : ∀ oz', (∀ i, i < l → oz' i = bs (K (x + dm x + i))) → post (nI l) oz') : vc_MD_tell (nI x) (nI l) row post on oz := by
  have hd := h.1
  have hS := doc_S hd
  have a := dm_at hd h.2.1 hx
  have key : ∀ f i, i + f = l → ∀ oz', (∀ j, j < i → oz' j = bs (K (x + dm x + j))) → vc_MD_tell_2 (nI x) (nI l) row post (f + 1) (nI i) on oz' := by
    intro f
    induction f with
    | zero =>
      intro i hi oz' ho
      rw [vc_MD_tell_2]
      simp (disch := omega) only [li0, li1, li2, li3, li4, li5, li6, li7, li8, li16, li20, li24, li31, li63, li64, li65, li200, li255, li256, li320, li16384, li16448, li65535, li65536, nI_add, nI_subI, nI_mulI, nI_ltI, nI_leI, nI_eq, nI_clamp, vpI, nI_maxN, nI_minN, ls_nI, half_nI, nI_addneg]
      exact ⟨fun _ => hp oz' (fun j hj => ho j (by omega)), fun q => absurd (by omega) q⟩
    | succ f ih =>
      intro i hi oz' ho
      have r := m_row h hx (show i < lenf ow cs (x + dm x) by omega)
      rw [vc_MD_tell_2]
      simp (disch := omega) only [li0, li1, li2, li3, li4, li5, li6, li7, li8, li16, li20, li24, li31, li63, li64, li65, li200, li255, li256, li320, li16384, li16448, li65535, li65536, nI_add, nI_subI, nI_mulI, nI_ltI, nI_leI, nI_eq, nI_clamp, vpI, nI_maxN, nI_minN, ls_nI, half_nI, nI_addneg]
      rw [r.1, nar_bs]
      refine ⟨fun q => by omega, fun _ => ⟨by omega, by omega, ih (i + 1) (by omega) _ (fun j hj => ?_)⟩⟩
      by_cases e : j = i
      · rw [e, upS]
      · rw [upN e]; exact ho j (by omega)
  exact ⟨l + 1, key l 0 (by omega) oz (fun j hj => by omega)⟩
theorem m_tell0 {row : Nat → Int32} {x : Int32} {oz : Nat → Int32} {on : Int32} {post : Int32 → (Nat → Int32) → Prop} (hp : post (nI 0) oz) : vc_MD_tell x (nI 0) row post on oz := by
  refine ⟨1, ?_⟩
  rw [vc_MD_tell_2]
  exact ⟨fun _ => hp, fun q => absurd (by decide) q⟩
theorem lst_cp {K ow cs dm : Nat → Nat} {n : Nat} {P : Nat → Bool} (hd : DocOk K ow cs n) (hm : DocM cs dm n) (hP : ∀ p, p < cs n → K p < 64 → P p = false) :
    (lst (fun y => P (y + dm y)) (cs n - n) = 0 → lst P (cs n) = 0) ∧ (∀ x, lst (fun y => P (y + dm y)) (cs n - n) = x + 1 → x < cs n - n ∧ lst P (cs n) = x + dm x + 1) := by
  constructor
  · intro e
    rw [lst_none] at e ⊢
    intro p hp
    by_cases k : K p < 64
    · exact hP p hp k
    · have a := dm_of hd hm hp (by omega)
      have := e _ a.1
      rw [a.2.1, show p - ow p + ow p = p by omega] at this
      exact this
  · intro x e
    rw [lst_some] at e
    refine ⟨e.1, ?_⟩
    rw [lst_some]
    refine ⟨(dm_at hd hm e.1).2.1, e.2.1, fun p h1 h2 => ?_⟩
    by_cases k : K p < 64
    · exact hP p h2 k
    · have a := dm_of hd hm h2 (by omega)
      have hlt : x < p - ow p := by
        by_cases g : p - ow p ≤ x
        · have := dm_mono hd hm e.1 g
          rw [a.2.1] at this
          omega
        · omega
      have := e.2.2 _ hlt a.1
      rw [a.2.1, show p - ow p + ow p = p by omega] at this
      exact this
theorem nrl_mark {K ow cs sk : Nat → Nat} {n m k p : Nat} (hd : DocOk K ow cs n) (hp : p < cs n) (hk : K p < 64) : nrl K ow cs sk m k p = false := by
  have := (doc_len0 hd hp).mp hk
  unfold nrl
  simp only [decide_eq_false_iff_not]
  omega
theorem m_near {row start dof sz : Nat → Int32} {K ow cs dm sk : Nat → Nat} {n m : Nat} (h : LibM row start dof K ow cs dm n) (hsk : ∀ i, i < m → 64 ≤ sk i ∧ sk i < 320) (hsz : ∀ i, i < m → sz i = bs (sk i)) (hm : m ≤ 200) {kz th on : Int32} {oz : Nat → Int32}
    {post : Int32 → Int32 → Int32 → (Nat → Int32) → Prop}
    (hbad : (∀ k : Nat, k < 4 → kz ≠ nI k) → post 0 1 on oz)
    (hnone : ∀ k : Nat, k < 4 → kz = nI k → m = 0 → post 0 2 on oz)
    (h0 : ∀ k : Nat, k < 4 → kz = nI k → 1 ≤ m → lst (nrl K ow cs sk m k) (cs n) = 0 → post (nI (cnt (nrl K ow cs sk m k) (cs n))) 0 on oz)
    (h1 : ∀ k p : Nat, k < 4 → kz = nI k → 1 ≤ m → lst (nrl K ow cs sk m k) (cs n) = p + 1 → ∀ oz', (∀ i, i < m → oz' i = bs (K (p + i))) → post (nI (cnt (nrl K ow cs sk m k) (cs n))) 0 (nI m) oz') :
    vc_MD_near kz (nI m) (nI (cs n - n)) row sz start dof post th on oz := by
  have hd := h.1
  have hS := doc_S hd
  have good : ∀ k : Nat, k < 4 → kz = nI k → vc_MD_near_21 kz (nI m) (nI (cs n - n)) row sz start dof post 1 0 0 on oz := by
    intro k hk e
    subst e
    have hP : ∀ p, p < cs n → K p < 64 → nrl K ow cs sk m k p = false := fun p hp hk => nrl_mark hd hp hk
    unfold vc_MD_near_21 vc_MD_near_41
    refine m_ok ⟨fun g => absurd rfl g, fun _ => ⟨fun g => m_ok ⟨fun _ => ⟨cs n - n + 1, ?_⟩, fun g => absurd rfl g⟩, fun g => m_no ⟨fun g => absurd g (by decide), fun _ => hnone k hk rfl ?_⟩⟩⟩
    · have hm1 : 1 ≤ m := by
        by_cases e : m = 0
        · rw [e] at g; exact absurd rfl g
        · omega
      have key56 : ∀ f x, x + f = cs n - n → vc_MD_near_56 (nI k) (nI m) (nI (cs n - n)) row sz start dof post (f + 1) (nI (cnt (fun y => nrl K ow cs sk m k (y + dm y)) x)) (nI (lst (fun y => nrl K ow cs sk m k (y + dm y)) x) - nI 1) (nI x) 0 on oz := by
        intro f
        induction f with
        | zero =>
          intro x hx
          have ex : x = cs n - n := by omega
          subst ex
          have lc' := lst_cp hd h.2.1 hP
          have cc := cnt_cpN hd h.2.1 hP
          rw [vc_MD_near_56, nI_leI (by omega) (by omega)]
          refine ⟨fun _ => ⟨fun q => ?_, fun q => ?_⟩, fun q => absurd (Nat.le_refl _) q⟩
          · rw [li0, sub_ltI (by have := lst_le (fun y => nrl K ow cs sk m k (y + dm y)) (cs n - n); omega) (by omega) (by omega)] at q
            rw [← cc]
            exact h0 k hk rfl hm1 (lc'.1 (by omega))
          · rw [li0, sub_ltI (by have := lst_le (fun y => nrl K ow cs sk m k (y + dm y)) (cs n - n); omega) (by omega) (by omega)] at q
            have l2 := lc'.2 (lst (fun y => nrl K ow cs sk m k (y + dm y)) (cs n - n) - 1) (by omega)
            rw [nI_subI (by omega), ← cc]
            have hin := (lst_some.mp l2.2).2.1
            unfold nrl at hin
            simp only [decide_eq_true_eq] at hin
            exact m_tell h l2.1 hin.2.1 (fun oz' ho => h1 k _ hk rfl hm1 l2.2 oz' ho)
        | succ f ih =>
          intro x hx
          have a := dm_at hd h.2.1 (show x < cs n - n by omega)
          have skip : nrl K ow cs sk m k (x + dm x) = false → vc_MD_near_149 (nI k) (nI m) (nI (cs n - n)) row sz start dof post (fun x2' x3' x4' z_thrown' z_outSize' z_out' => vc_MD_near_56 (nI k) (nI m) (nI (cs n - n)) row sz start dof post (f + 1) x2' x3' x4' z_thrown' z_outSize' z_out') (nI (cnt (fun y => nrl K ow cs sk m k (y + dm y)) x)) (nI (lst (fun y => nrl K ow cs sk m k (y + dm y)) x) - nI 1) (nI x) 0 on oz := by
            intro e
            unfold vc_MD_near_149
            rw [nI_1]
            have := ih (x + 1) (by omega)
            have e2 : cnt (fun y => nrl K ow cs sk m k (y + dm y)) (x + 1) = cnt (fun y => nrl K ow cs sk m k (y + dm y)) x := by
              show _ + (if nrl K ow cs sk m k (x + dm x) = true then 1 else 0) = _
              rw [e]; rfl
            have e3 : lst (fun y => nrl K ow cs sk m k (y + dm y)) (x + 1) = lst (fun y => nrl K ow cs sk m k (y + dm y)) x := by
              show (if nrl K ow cs sk m k (x + dm x) = true then x + 1 else _) = _
              rw [e]; rfl
            rw [e2, e3] at this
            exact this
          have take : nrl K ow cs sk m k (x + dm x) = true → vc_MD_near_149 (nI k) (nI m) (nI (cs n - n)) row sz start dof post (fun x2' x3' x4' z_thrown' z_outSize' z_out' => vc_MD_near_56 (nI k) (nI m) (nI (cs n - n)) row sz start dof post (f + 1) x2' x3' x4' z_thrown' z_outSize' z_out') (nI (cnt (fun y => nrl K ow cs sk m k (y + dm y)) x) + 1) (nI x) (nI x) 0 on oz := by
            intro e
            unfold vc_MD_near_149
            rw [nI_1, nI_1]
            have := ih (x + 1) (by omega)
            have e2 : cnt (fun y => nrl K ow cs sk m k (y + dm y)) (x + 1) = cnt (fun y => nrl K ow cs sk m k (y + dm y)) x + 1 := by
              show _ + (if nrl K ow cs sk m k (x + dm x) = true then 1 else 0) = _
              rw [e]; rfl
            have e3 : lst (fun y => nrl K ow cs sk m k (y + dm y)) (x + 1) = x + 1 := by
              show (if nrl K ow cs sk m k (x + dm x) = true then x + 1 else _) = _
              rw [e]; rfl
            rw [e2, e3, nI_subI (by omega), Nat.add_sub_cancel] at this
            exact this
          rw [vc_MD_near_56, nI_leI (by omega) (by omega)]
          refine ⟨fun q => by omega, fun _ => m_endOf h (by omega) ?_⟩
          rw [nI_add, nI_leI (by omega) (by omega)]
          refine ⟨fun q => ⟨m + 1, ?_⟩, fun q => skip (by unfold nrl; simp only [decide_eq_false_iff_not]; omega)⟩
          have key90 : ∀ g i, i + g = m → cnt (fun i => decide (K (x + dm x + i) ≠ sk i)) i ≤ k + 1 → vc_MD_near_90 (nI k) (nI m) (nI (cs n - n)) row sz start dof post (fun x2' x3' x4' z_thrown' z_outSize' z_out' => vc_MD_near_56 (nI k) (nI m) (nI (cs n - n)) row sz start dof post (f + 1) x2' x3' x4' z_thrown' z_outSize' z_out') (g + 1) (nI (cnt (fun y => nrl K ow cs sk m k (y + dm y)) x)) (nI (lst (fun y => nrl K ow cs sk m k (y + dm y)) x) - nI 1) (nI x) (nI (cnt (fun i => decide (K (x + dm x + i) ≠ sk i)) i)) (nI i) 0 on oz := by
            intro g
            have out : ∀ i, i ≤ m → (i = m ∨ k < cnt (fun i => decide (K (x + dm x + i) ≠ sk i)) i) → cnt (fun i => decide (K (x + dm x + i) ≠ sk i)) i ≤ k + 1 → vc_MD_near_134 (nI k) (nI m) (nI (cs n - n)) row sz start dof post (fun x2' x3' x4' z_thrown' z_outSize' z_out' => vc_MD_near_56 (nI k) (nI m) (nI (cs n - n)) row sz start dof post (f + 1) x2' x3' x4' z_thrown' z_outSize' z_out') (nI (cnt (fun y => nrl K ow cs sk m k (y + dm y)) x)) (nI (lst (fun y => nrl K ow cs sk m k (y + dm y)) x) - nI 1) (nI x) (nI (cnt (fun i => decide (K (x + dm x + i) ≠ sk i)) i)) 0 on oz := by
              intro i hi hor hc
              have mono := cnt_step (fun i => decide (K (x + dm x + i) ≠ sk i)) hi
              unfold vc_MD_near_134
              rw [nI_leI (by omega) (by omega)]
              refine ⟨fun q2 => take ?_, fun q2 => skip ?_⟩
              · unfold nrl chg
                simp only [decide_eq_true_eq]
                rcases hor with e | e
                · rw [e] at q2; omega
                · omega
              · unfold nrl chg
                simp only [decide_eq_false_iff_not]
                omega
            induction g with
            | zero =>
              intro i hi hc
              rw [vc_MD_near_90, nI_leI (by omega) (by omega)]
              exact ⟨fun _ => out i (by omega) (Or.inl (by omega)) hc, fun q => absurd (by omega) q⟩
            | succ g ih3 =>
              intro i hi hc
              have r := m_row h (show x < cs n - n by omega) (show i < lenf ow cs (x + dm x) by omega)
              have kk := hsk i (by omega)
              rw [vc_MD_near_90, nI_leI (by omega) (by omega), nI_ltI (by omega) (by omega)]
              refine ⟨fun q => by omega, fun _ => ⟨fun q2 => out i (by omega) (Or.inr q2) hc, fun q2 => ?_⟩⟩
              rw [nI_add, nI_clamp (by omega), nI_clamp (by omega), r.1, hsz i (by omega), bs_eq r.2.2.1 r.2.2.2 kk.1 kk.2]
              unfold vc_MD_near_128
              refine ⟨(vpI (by omega)).mpr (by omega), (vpI (by omega)).mpr (by omega), fun g2 => ?_, fun g2 => ?_⟩
              · have e : cnt (fun i => decide (K (x + dm x + i) ≠ sk i)) i = cnt (fun i => decide (K (x + dm x + i) ≠ sk i)) (i + 1) := by
                  show _ = _ + (if decide (K (x + dm x + i) ≠ sk i) = true then 1 else 0)
                  rw [if_neg (by simpa using g2)]; rfl
                rw [e, nI_1]
                exact ih3 (i + 1) (by omega) (by omega)
              · have e : cnt (fun i => decide (K (x + dm x + i) ≠ sk i)) i + 1 = cnt (fun i => decide (K (x + dm x + i) ≠ sk i)) (i + 1) := by
                  show _ = _ + (if decide (K (x + dm x + i) ≠ sk i) = true then 1 else 0)
                  rw [if_pos (by simpa using g2)]
                rw [nI_1, nI_1, e]
                exact ih3 (i + 1) (by omega) (by omega)
          exact key90 m 0 (by omega) (by simp [cnt])
      have := key56 (cs n - n) 0 (by omega)
      rw [show (-1 : Int32) = nI 0 - nI 1 by decide]
      exact this
    · rw [li0, nI_eq (by omega) (by omega)] at g
      exact g
  have bad : (∀ k : Nat, k < 4 → kz ≠ nI k) → vc_MD_near_16 kz (nI m) (nI (cs n - n)) row sz start dof post 1 0 on oz := by
    intro g
    unfold vc_MD_near_16 vc_MD_near_21
    exact m_no ⟨fun _ => hbad g, fun e => absurd e (by decide)⟩
  unfold vc_MD_near
  refine ⟨fun q => bad (fun k hk => neg_ne q (by omega)), fun q => ?_⟩
  obtain ⟨j, hj, e⟩ := nI_of q
  subst e
  rw [li3, nI_leI (by omega) (by omega)]
  refine ⟨fun q2 => good j (by omega) rfl, fun q2 => bad (fun k hk e => ?_)⟩
  rw [nI_eq (by omega) (by omega)] at e
  omega
