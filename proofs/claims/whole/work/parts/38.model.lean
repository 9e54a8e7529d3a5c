/-! the reference's library: places x, in the class's text x + dm x -/
def DocM (cs dm : Nat → Nat) (n : Nat) : Prop := ∀ x, x < cs n - n → dm x < n ∧ cs (dm x) ≤ x + dm x ∧ x + dm x + 1 < cs (dm x + 1)
theorem dm_at {K ow cs dm : Nat → Nat} {n x : Nat} (hd : DocOk K ow cs n) (hm : DocM cs dm n) (hx : x < cs n - n) :
    dm x < n ∧ x + dm x < cs n ∧ ow (x + dm x) = dm x ∧ 64 ≤ K (x + dm x) ∧ K (x + dm x) < 320 ∧ 1 ≤ lenf ow cs (x + dm x) ∧ x + lenf ow cs (x + dm x) + dm x + 1 = cs (dm x + 1) ∧ x + lenf ow cs (x + dm x) ≤ cs n - n ∧ cs (dm x) ≤ x + dm x := by
  obtain ⟨a, b, c⟩ := hm x hx
  have m := doc_mono hd (show dm x + 1 ≤ n by omega) (Nat.le_refl n)
  obtain ⟨e, f, g⟩ := hd.2.2.1 (dm x) (x + dm x) a b (by omega)
  have l := doc_len hd (show x + dm x < cs n by omega)
  rw [e] at l
  have g' := g (by omega)
  refine ⟨a, by omega, e, g'.1, g'.2, by omega, by omega, by omega, b⟩
theorem dm_uniq {K ow cs dm : Nat → Nat} {n x d : Nat} (hd : DocOk K ow cs n) (hm : DocM cs dm n) (hx : x < cs n - n) (h1 : d < n) (h2 : cs d ≤ x + d) (h3 : x + d + 1 < cs (d + 1)) : dm x = d := by
  obtain ⟨a, b, c⟩ := hm x hx
  by_cases q : dm x < d
  · have := doc_mono hd (show dm x + 1 ≤ d by omega) (by omega)
    omega
  · by_cases q2 : d < dm x
    · have := doc_mono hd (show d + 1 ≤ dm x by omega) (by omega)
      omega
    · omega
theorem dm_next {K ow cs dm : Nat → Nat} {n x i : Nat} (hd : DocOk K ow cs n) (hm : DocM cs dm n) (hx : x < cs n - n) (hi : i < lenf ow cs (x + dm x)) : x + i < cs n - n ∧ dm (x + i) = dm x ∧ lenf ow cs (x + i + dm (x + i)) = lenf ow cs (x + dm x) - i := by
  have a := dm_at hd hm hx
  have e : dm (x + i) = dm x := dm_uniq hd hm (by omega) a.1 (by omega) (by omega)
  refine ⟨by omega, e, ?_⟩
  rw [e, show x + i + dm x = x + dm x + i by omega]
  exact (doc_in hd a.2.1 hi).2.2.2.2
theorem doc_ow_le {K ow cs : Nat → Nat} {n p : Nat} (hd : DocOk K ow cs n) (hp : p < cs n) : ow p ≤ p := by
  have a := doc_at hd hp
  have := doc_mono hd (show 0 ≤ ow p by omega) (show ow p ≤ n by omega)
  omega
theorem dm_of {K ow cs dm : Nat → Nat} {n p : Nat} (hd : DocOk K ow cs n) (hm : DocM cs dm n) (hp : p < cs n) (hk : 64 ≤ K p) : p - ow p < cs n - n ∧ dm (p - ow p) = ow p ∧ ow p ≤ p := by
  have a := doc_at hd hp
  have b := doc_ow_le hd hp
  have m := doc_mono hd (show ow p + 1 ≤ n by omega) (Nat.le_refl n)
  have k := doc_mark hd hp
  have hx : p - ow p < cs n - n := by omega
  exact ⟨hx, dm_uniq hd hm hx a.1 (by omega) (by omega), b⟩
theorem dm_mono {K ow cs dm : Nat → Nat} {n x y : Nat} (hd : DocOk K ow cs n) (hm : DocM cs dm n) (hy : y < cs n - n) (hxy : x ≤ y) : dm x ≤ dm y := by
  have a := dm_at hd hm (show x < cs n - n by omega)
  have b := dm_at hd hm hy
  by_cases q : dm y < dm x
  · have := doc_mono hd (show dm y + 1 ≤ dm x by omega) (by omega)
    omega
  · omega
def LibM (row start dof : Nat → Int32) (K ow cs dm : Nat → Nat) (n : Nat) : Prop :=
  DocOk K ow cs n ∧ DocM cs dm n ∧ (∀ x, x < cs n - n → row x = bs (K (x + dm x))) ∧ (∀ x, x < cs n - n → dof x = nI (dm x)) ∧ (∀ d, d ≤ n → start d = nI (cs d - d))
theorem DocM_le {K ow cs dm : Nat → Nat} {n m : Nat} (hd : DocOk K ow cs n) (h : DocM cs dm n) (hm : m ≤ n) : DocM cs dm m := by
  intro x hx
  have a := doc_mono hd hm (Nat.le_refl n)
  have b := h x (by omega)
  refine ⟨?_, b.2⟩
  by_cases q : m ≤ dm x
  · have := doc_mono hd q (by omega)
    omega
  · omega
theorem LibM_le {row start dof : Nat → Int32} {K ow cs dm : Nat → Nat} {n m : Nat} (h : LibM row start dof K ow cs dm n) (hm : m ≤ n) : LibM row start dof K ow cs dm m := by
  obtain ⟨a, b, c, d, e⟩ := h
  have := doc_mono a hm (Nat.le_refl n)
  exact ⟨DocOk_le a hm, DocM_le a b hm, fun x hx => c x (by omega), fun x hx => d x (by omega), fun x hx => e x (by omega)⟩
theorem doc_S {K ow cs : Nat → Nat} {n : Nat} (hd : DocOk K ow cs n) : cs n - n ≤ 16384 := by
  have := hd.2.2.2.2
  omega
theorem m_endOf {row start dof : Nat → Int32} {K ow cs dm : Nat → Nat} {n x : Nat} (h : LibM row start dof K ow cs dm n) (hx : x < cs n - n) {post : Int32 → Prop} (hp : post (nI (x + lenf ow cs (x + dm x)))) : vc_MD_endOf (nI x) start dof post := by
  obtain ⟨hd, hm, hr, ho, hs⟩ := h
  have a := dm_at hd hm hx
  have hS := doc_S hd
  have h64 := hd.2.2.2.1
  unfold vc_MD_endOf
  simp (disch := omega) only [li0, li1, li2, li3, li4, li5, li6, li7, li8, li16, li20, li24, li31, li63, li64, li65, li200, li255, li256, li320, li16384, li16448, li65535, li65536, nI_add, nI_subI, nI_mulI, nI_ltI, nI_leI, nI_eq, nI_clamp, vpI, nI_maxN, nI_minN, ls_nI, half_nI, nI_addneg, ho, hs]
  refine ⟨by omega, by omega, ?_⟩
  rw [show cs (dm x + 1) - (dm x + 1) = x + lenf ow cs (x + dm x) by omega]
  exact hp
/-- alike of the reference -/
theorem m_alike {row start dof : Nat → Int32} {K ow cs dm : Nat → Nat} {n x y : Nat} (h : LibM row start dof K ow cs dm n) (hx : x < cs n - n) (hy : y < cs n - n) {post : Int32 → Prop}
    (hp : post (nI (if x = y then lenf ow cs (x + dm x) else lcp K (cs n) (x + dm x) (y + dm y)))) : vc_MD_alike (nI x) (nI y) row start dof post := by
  have h' := h
  obtain ⟨hd, hm, hr, ho, hs⟩ := h
  have hS := doc_S hd
  have a := dm_at hd hm hx
  have b := dm_at hd hm hy
  -- the length l, what holds before it, what ends it
  have key : ∀ l, l ≤ lenf ow cs (x + dm x) → l ≤ lenf ow cs (y + dm y) → (∀ i, i < l → K (x + dm x + i) = K (y + dm y + i)) →
      (l = lenf ow cs (x + dm x) ∨ l = lenf ow cs (y + dm y) ∨ K (x + dm x + l) ≠ K (y + dm y + l)) → post (nI l) → vc_MD_alike (nI x) (nI y) row start dof post := by
    intro l l1 l2 hs1 hs2 hpost
    have loop : ∀ k i, i + k = l → vc_MD_alike_2 (nI x) (nI y) row start dof post (k + 1) (nI i) := by
      intro k
      induction k with
      | zero =>
        intro i hi
        have e : i = l := by omega
        subst e
        rw [vc_MD_alike_2]
        refine m_endOf h' hx ?_
        simp (disch := omega) only [li0, li1, li2, li3, li4, li5, li6, li7, li8, li16, li20, li24, li31, li63, li64, li65, li200, li255, li256, li320, li16384, li16448, li65535, li65536, nI_add, nI_subI, nI_mulI, nI_ltI, nI_leI, nI_eq, nI_clamp, vpI, nI_maxN, nI_minN, ls_nI, half_nI, nI_addneg]
        refine ⟨fun _ => hpost, fun q => m_endOf h' hy ?_⟩
        simp (disch := omega) only [li0, li1, li2, li3, li4, li5, li6, li7, li8, li16, li20, li24, li31, li63, li64, li65, li200, li255, li256, li320, li16384, li16448, li65535, li65536, nI_add, nI_subI, nI_mulI, nI_ltI, nI_leI, nI_eq, nI_clamp, vpI, nI_maxN, nI_minN, ls_nI, half_nI, nI_addneg]
        refine ⟨fun _ => hpost, fun q2 => ⟨by omega, by omega, fun _ => hpost, fun e => ?_⟩⟩
        have c := dm_next hd hm hx (show i < lenf ow cs (x + dm x) by omega)
        have d := dm_next hd hm hy (show i < lenf ow cs (y + dm y) by omega)
        have c' := doc_in hd a.2.1 (show i < lenf ow cs (x + dm x) by omega)
        have d' := doc_in hd b.2.1 (show i < lenf ow cs (y + dm y) by omega)
        rw [hr _ c.1, hr _ d.1, c.2.1, d.2.1, show x + i + dm x = x + dm x + i by omega, show y + i + dm y = y + dm y + i by omega, bs_eq c'.2.2.1 c'.2.2.2.1 d'.2.2.1 d'.2.2.2.1] at e
        omega
      | succ k ih =>
        intro i hi
        rw [vc_MD_alike_2]
        refine m_endOf h' hx ?_
        simp (disch := omega) only [li0, li1, li2, li3, li4, li5, li6, li7, li8, li16, li20, li24, li31, li63, li64, li65, li200, li255, li256, li320, li16384, li16448, li65535, li65536, nI_add, nI_subI, nI_mulI, nI_ltI, nI_leI, nI_eq, nI_clamp, vpI, nI_maxN, nI_minN, ls_nI, half_nI, nI_addneg]
        refine ⟨fun q => by omega, fun q => m_endOf h' hy ?_⟩
        simp (disch := omega) only [li0, li1, li2, li3, li4, li5, li6, li7, li8, li16, li20, li24, li31, li63, li64, li65, li200, li255, li256, li320, li16384, li16448, li65535, li65536, nI_add, nI_subI, nI_mulI, nI_ltI, nI_leI, nI_eq, nI_clamp, vpI, nI_maxN, nI_minN, ls_nI, half_nI, nI_addneg]
        have c := dm_next hd hm hx (show i < lenf ow cs (x + dm x) by omega)
        have d := dm_next hd hm hy (show i < lenf ow cs (y + dm y) by omega)
        refine ⟨fun q => by omega, fun q2 => ⟨by omega, by omega, fun e => ?_, fun _ => ih (i + 1) (by omega)⟩⟩
        refine absurd ?_ e
        rw [hr _ c.1, hr _ d.1, c.2.1, d.2.1, show x + i + dm x = x + dm x + i by omega, show y + i + dm y = y + dm y + i by omega, hs1 i (by omega)]
    exact ⟨l + 1, loop l 0 (by omega)⟩
  by_cases e : x = y
  · rw [if_pos e] at hp
    subst e
    exact key _ (Nat.le_refl _) (Nat.le_refl _) (fun _ _ => rfl) (Or.inl rfl) hp
  · rw [if_neg e] at hp
    have hne : x + dm x ≠ y + dm y := by
      intro g
      by_cases q : x < y
      · have := dm_mono hd hm hy (Nat.le_of_lt q); omega
      · have := dm_mono hd hm hx (show y ≤ x by omega); omega
    have l := lcp_len hd a.2.1 b.2.1 hne
    exact key _ l.1 l.2 (fun i hi => (lcp_same hd a.2.1 b.2.1 hne hi).2.2.1) (Or.inr (Or.inr (lcp_at hd a.2.1 b.2.1 hne).2.2)) hp
theorem cp_ne {K ow cs dm : Nat → Nat} {n x y : Nat} (hd : DocOk K ow cs n) (hm : DocM cs dm n) (hx : x < cs n - n) (hy : y < cs n - n) (e : x ≠ y) : x + dm x ≠ y + dm y := by
  intro g
  by_cases q : x < y
  · have := dm_mono hd hm hy (Nat.le_of_lt q); omega
  · have := dm_mono hd hm hx (show y ≤ x by omega); omega
/-! compare and sort of the reference -/
def rat (ow cs dm r : Nat → Nat) (by_ x : Nat) : Nat := if by_ < lenf ow cs (x + dm x) then r (x + by_) + 1 else 0
def mkey (ow cs dm r : Nat → Nat) (by_ x : Nat) : Nat := r x * 20000 + rat ow cs dm r by_ x
theorem sub_sub1 (a b c : Int32) : (a - c) - (b - c) = a - b := by grind
theorem m_rankAt {row start dof rz : Nat → Int32} {K ow cs dm r : Nat → Nat} {n x by_ : Nat} (h : LibM row start dof K ow cs dm n) (hrz : ∀ x, x < cs n - n → rz x = nI (r x)) (hx : x < cs n - n) (hb : by_ < 100000) {post : Int32 → Prop}
    (hp : post (nI (rat ow cs dm r by_ x) - nI 1)) : vc_MD_rankAt (nI x) (nI by_) start dof rz post := by
  have hd := h.1
  have hm := h.2.1
  have a := dm_at hd hm hx
  have hS := doc_S hd
  unfold vc_MD_rankAt
  refine m_endOf h hx ?_
  unfold rat at hp
  simp (disch := omega) only [li0, li1, li2, li3, li4, li5, li6, li7, li8, li16, li20, li24, li31, li63, li64, li65, li200, li255, li256, li320, li16384, li16448, li65535, li65536, nI_add, nI_subI, nI_mulI, nI_ltI, nI_leI, nI_eq, nI_clamp, vpI, nI_maxN, nI_minN, ls_nI, half_nI, nI_addneg]
  refine ⟨fun q => ?_, fun q => ⟨by omega, ?_⟩⟩
  · rw [if_neg (by omega)] at hp
    exact hp
  · rw [if_pos (by omega), nI_subI (by omega), Nat.add_sub_cancel] at hp
    rw [hrz _ (by omega)]
    exact hp
theorem m_compare {row start dof rz : Nat → Int32} {K ow cs dm r : Nat → Nat} {n by_ : Nat} (h : LibM row start dof K ow cs dm n) (hrz : ∀ x, x < cs n - n → rz x = nI (r x)) (hr : ∀ x, x < cs n - n → r x < 19000) (hb : by_ < 100000)
    {x y : Nat} (hx : x < cs n - n) (hy : y < cs n - n) {post : Int32 → Prop}
    (hp : ∀ v : Int32, (0 < v ↔ mkey ow cs dm r by_ y < mkey ow cs dm r by_ x) → (v = 0 ↔ mkey ow cs dm r by_ x = mkey ow cs dm r by_ y) → post v) : vc_MD_compare (nI x) (nI y) (nI by_) start dof rz post := by
  have hS := doc_S h.1
  have hrx := hr x hx
  have hry := hr y hy
  have hrat : ∀ x, x < cs n - n → rat ow cs dm r by_ x < 19001 := by
    intro x hx
    have a := dm_at h.1 h.2.1 hx
    unfold rat
    split
    · have := hr (x + by_) (by omega)
      omega
    · omega
  have hx2 := hrat x hx
  have hy2 := hrat y hy
  have dif : ∀ a b : Nat, a < 19001 → b < 19001 → ((0 < nI a - nI b ↔ b < a) ∧ (nI a - nI b = 0 ↔ a = b)) := by
    intro a b ha hb
    have t := pk_sub_toInt (a := a) (b := b) (by omega) (by omega)
    constructor
    · rw [Int32.lt_iff_toInt_lt, t, Int32.toInt_zero]; omega
    · rw [← Int32.toInt_inj, t, Int32.toInt_zero]; omega
  unfold vc_MD_compare
  simp (disch := omega) only [nI_clamp, vpI, hrz, nI_eq]
  refine ⟨by omega, by omega, fun e => ?_, fun e => ⟨by omega, by omega, ?_⟩⟩
  · refine m_rankAt h hrz hx hb (m_rankAt h hrz hy hb ?_)
    rw [sub_sub1]
    have d := dif _ _ hx2 hy2
    refine hp _ ?_ ?_
    · rw [d.1]; unfold mkey; rw [e]; omega
    · rw [d.2]; unfold mkey; rw [e]; omega
  · have d := dif (r x) (r y) (by omega) (by omega)
    refine hp _ ?_ ?_
    · rw [d.1]; unfold mkey; omega
    · rw [d.2]; unfold mkey; omega
