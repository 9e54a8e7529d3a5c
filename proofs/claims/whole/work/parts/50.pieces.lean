/-! telling; pieces -/
theorem s_tell {text owners starts : Nat → Int32} {K ow cs : Nat → Nat} {n p l : Nat} {pz : Int32} (h : LibC text owners starts K ow cs n) (hp : 0 < l → pz = nI p ∧ p < cs n ∧ l ≤ lenf ow cs p) {tl : Int32} {tb : Nat → Int32}
    {post : Int32 → Int32 → (Nat → Int32) → Prop} (hpost : ∀ tb', (∀ i, i < l → tb' i = tx (K (p + i))) → post (nI l) (nI l) tb') : vc_SI_tell pz (nI l) 16384 text post tl tb := by
  have hd := h.1
  have hN := doc_N hd
  unfold vc_SI_tell
  by_cases q : l = 0
  · subst q
    exact ⟨fun g => absurd rfl g, fun _ => hpost tb (fun i hi => by omega)⟩
  · obtain ⟨e, h1, h2⟩ := hp (by omega)
    have h3 := lenf_le hd h1
    have h4 := doc_len hd h1
    subst e
    refine ⟨fun _ => ?_, fun g => absurd g (nI_ne0 (by omega) (by omega))⟩
    unfold vc_BR_copy
    rw [nI_clamp (by omega), nI_clamp (by omega), pk_cl 0]
    refine ⟨ls_nI (by omega), by decide, ls_nI (by omega), by omega, by omega, hpost _ (fun i hi => ?_)⟩
    rw [pk_cpy_in (by omega) (by omega), Nat.sub_zero]
    exact h.2.1 _ (by omega)
theorem sm_bound {K ow cs sa rk : Nat → Nat} {n : Nat} (hd : DocOk K ow cs n) (hs : SAok K (cs n) sa rk) : ∀ k, k ≤ cs n - n → sm (pcs K ow cs n sa) k ≤ 300000000 := by
  intro k hk
  have hS := doc_S hd
  have := sm_le (f := pcs K ow cs n sa) (b := 16384) k (fun i hi => by
    unfold pcs
    have := lenf_le hd (hs.1 (n + i) (by omega)).1
    omega)
  have : k * 16384 ≤ 16384 * 16384 := Nat.mul_le_mul_right _ (by omega)
  omega
theorem s_pieces {pz : Nat → Int64} {K ow cs sa : Nat → Nat} {n : Nat} (hd : DocOk K ow cs n) (hpz : ∀ i, n + i < cs n → pz (n + i) = lN (sm (pcs K ow cs n sa) (i + 1))) {post : Int64 → Prop} (hp : post (lN (sm (pcs K ow cs n sa) (cs n - n)))) :
    vc_OR_differentPieces (nI (cs n)) pz post := by
  have hN := doc_N hd
  unfold vc_OR_differentPieces
  refine ⟨fun q => ?_, fun q => ?_⟩
  · have h1 : 0 < cs n := by
      by_cases e : cs n = 0
      · rw [e] at q; exact absurd rfl q
      · omega
    have hn : 0 < n := by
      by_cases e : n = 0
      · rw [e, hd.1] at h1; omega
      · omega
    have hm := doc_mono hd (show 0 ≤ n by omega) (Nat.le_refl n)
    have e := hpz (cs n - n - 1) (by omega)
    rw [show n + (cs n - n - 1) = cs n - 1 by omega, show cs n - n - 1 + 1 = cs n - n by omega] at e
    rw [li1, nI_subI (by omega), nI_clamp (by omega), e]
    exact ⟨(vpI (by omega)).mpr (by omega), hp⟩
  · rw [li0, nI_eq (by omega) (by omega)] at q
    rw [q] at hp
    rw [Nat.zero_sub] at hp
    exact hp
theorem m_ordAt {row start dof odz sz rz : Nat → Int32} {K ow cs dm sa rk : Nat → Nat} {n k : Nat} (h : LibM row start dof K ow cs dm n) (hs : SAok K (cs n) sa rk) (ho : OrdM odz rz sz K ow cs dm n sa rk) (hk : k < cs n - n) :
    odz k = nI (sa (n + k) - ow (sa (n + k))) ∧ sa (n + k) - ow (sa (n + k)) < cs n - n ∧ sa (n + k) - ow (sa (n + k)) + dm (sa (n + k) - ow (sa (n + k))) = sa (n + k) ∧ sa (n + k) < cs n ∧ sz k = nI (LL K (cs n) sa (n + k)) := by
  have hd := h.1
  have s1 := hs.1 (n + k) (by omega)
  have mk := SA_mark_iff hd hs (show n + k < cs n by omega)
  have e := dm_of hd h.2.1 s1.1 (by omega)
  exact ⟨ho.1 k hk, e.1, by rw [e.2.1]; omega, s1.1, ho.2.2 k hk⟩
theorem m_pieces {row start dof odz sz rz : Nat → Int32} {K ow cs dm sa rk : Nat → Nat} {n : Nat} (h : LibM row start dof K ow cs dm n) (hs : SAok K (cs n) sa rk) (ho : OrdM odz rz sz K ow cs dm n sa rk) {th : Int32}
    {post : Int64 → Int32 → Prop} (hp : post (lN (sm (pcs K ow cs n sa) (cs n - n))) 0) : vc_MD_pieces (nI (cs n - n)) start dof odz sz post th := by
  have hd := h.1
  have hS := doc_S hd
  have key : ∀ f k, k + f = cs n - n → vc_MD_pieces_9 (nI (cs n - n)) start dof odz sz post (f + 1) (lN (sm (pcs K ow cs n sa) k)) (nI k) 0 := by
    intro f
    induction f with
    | zero =>
      intro k hk
      rw [vc_MD_pieces_9, nI_leI (by omega) (by omega), show k = cs n - n by omega]
      exact ⟨fun _ => hp, fun q => absurd (Nat.le_refl _) q⟩
    | succ f ih =>
      intro k hk
      have o := m_ordAt h hs ho (show k < cs n - n by omega)
      have l1 := lenf_le hd o.2.2.2.1
      have l2 := LL_len hd hs (show n + k < cs n by omega)
      rw [vc_MD_pieces_9, nI_leI (by omega) (by omega), nI_clamp (by omega), o.1, o.2.2.2.2]
      refine ⟨fun q => by omega, fun _ => ⟨(vpI (by omega)).mpr (by omega), m_endOf h o.2.1 ⟨(vpI (by omega)).mpr (by omega), (vpI (by omega)).mpr (by omega), ?_⟩⟩⟩
      rw [o.2.2.1, nI_subI (by omega), Nat.add_sub_cancel_left, nI_subI l2, nI_l (by omega), lN_add, nI_1]
      exact ih (k + 1) (by omega)
  exact ⟨cs n - n + 1, key (cs n - n) 0 (by omega)⟩
/-- the k-th piece: in the i-th suffix -/
theorem sm_find (f : Nat → Nat) : ∀ S j, j < sm f S → ∃ i, i < S ∧ sm f i ≤ j ∧ j < sm f (i + 1) := by
  intro S
  induction S with
  | zero => intro j hj; simp [sm] at hj
  | succ S ih =>
    intro j hj
    by_cases q : j < sm f S
    · obtain ⟨i, a, b⟩ := ih j q
      exact ⟨i, by omega, b⟩
    · exact ⟨S, by omega, by omega, hj⟩
theorem l0 : (0 : Int64) = lN 0 := rfl
theorem l1 : (1 : Int64) = lN 1 := rfl
theorem s_rankOfPiece {pz : Nat → Int64} {K ow cs sa rk : Nat → Nat} {n i j : Nat} (hd : DocOk K ow cs n) (hs : SAok K (cs n) sa rk) (hpz : ∀ i, n + i < cs n → pz (n + i) = lN (sm (pcs K ow cs n sa) (i + 1))) (hi : n + i < cs n) (h1 : sm (pcs K ow cs n sa) i ≤ j) (h2 : j < sm (pcs K ow cs n sa) (i + 1))
    {post : Int32 → Prop} (hp : post (nI (n + i))) : vc_OR_rankOfPiece (lN j) (nI n) (nI (cs n)) pz post := by
  have hN := doc_N hd
  have hb := sm_bound hd hs
  have key : ∀ f lo hi, hi ≤ lo + f → n ≤ lo → lo ≤ n + i → n + i ≤ hi → hi < cs n → vc_OR_rankOfPiece_13 (lN j) (nI n) (nI (cs n)) pz post (f + 1) (nI lo) (nI hi) := by
    intro f
    induction f with
    | zero =>
      intro lo hi a b c d e
      rw [vc_OR_rankOfPiece_13, nI_leI (by omega) (by omega), show lo = n + i by omega]
      exact ⟨fun _ => hp, fun q => absurd (by omega) q⟩
    | succ f ih =>
      intro lo hi a b c d e
      rw [vc_OR_rankOfPiece_13, nI_leI (by omega) (by omega)]
      refine ⟨fun q => by rw [show lo = n + i by omega]; exact hp, fun q => ?_⟩
      have hh : (((nI lo + nI hi).toUInt32 >>> ((1 : Int32).toUInt32 &&& Int32.toUInt32 31)).toInt32) = nI ((lo + hi) / 2) := by
        rw [nI_add]; exact half_nI (by omega)
      have e1 := hpz ((lo + hi) / 2 - n) (by omega)
      rw [show n + ((lo + hi) / 2 - n) = (lo + hi) / 2 by omega] at e1
      have b1 := hb ((lo + hi) / 2 - n + 1) (by omega)
      have b2 := hb (i + 1) (by omega)
      rw [hh, nI_clamp (by omega), e1, lg_cmp_le, pk_lLE (by omega) (by omega)]
      unfold vc_OR_rankOfPiece_51
      refine ⟨(vpI (by omega)).mpr (by omega), fun g => ?_, fun g => ?_⟩
      · rw [nI_1]
        refine ih _ _ (by omega) (by omega) ?_ d e
        by_cases c2 : n + i ≤ (lo + hi) / 2
        · have := sm_mono (pcs K ow cs n sa) (show i + 1 ≤ (lo + hi) / 2 - n + 1 by omega)
          omega
        · omega
      · refine ih _ _ (by omega) b c ?_ (by omega)
        by_cases c2 : (lo + hi) / 2 < n + i
        · have := sm_mono (pcs K ow cs n sa) (show (lo + hi) / 2 - n + 1 ≤ i by omega)
          omega
        · omega
  unfold vc_OR_rankOfPiece
  rw [li1, nI_subI (by omega)]
  exact ⟨cs n - 1 - n + 1, key (cs n - 1 - n) n (cs n - 1) (by omega) (Nat.le_refl _) (by omega) (by omega) (by omega)⟩
theorem lN_neg {x : Int64} (h : x < 0) (n : Nat) (hn : n < 4294967296) : x ≠ lN n := by
  intro e
  rw [e, Int64.lt_iff_toInt_lt, pk_lT (by omega)] at h
  have : (0 : Int64).toInt = 0 := by decide
  rw [this] at h
  omega
theorem s_piece {text owners starts so : Nat → Int32} {pz : Nat → Int64} {K ow cs sa rk : Nat → Nat} {n : Nat} (h : LibC text owners starts K ow cs n) (hs : SAok K (cs n) sa rk) (hso : ∀ k, k < cs n → so k = nI (sa k)) (hpz : ∀ i, n + i < cs n → pz (n + i) = lN (sm (pcs K ow cs n sa) (i + 1))) {kz : Int64} {tl : Int32} {tb : Nat → Int32}
    {post : Int32 → Int32 → (Nat → Int32) → Prop} {thr : Nat → Int32 → (Nat → Int32) → Prop}
    (h0 : (∀ j : Nat, j < sm (pcs K ow cs n sa) (cs n - n) → kz ≠ lN j) → thr 2 tl tb)
    (h1 : ∀ j i : Nat, kz = lN j → i < cs n - n → sm (pcs K ow cs n sa) i ≤ j → j < sm (pcs K ow cs n sa) (i + 1) → ∀ tb', (∀ k, k < LL K (cs n) sa (n + i) + 1 + (j - sm (pcs K ow cs n sa) i) → tb' k = tx (K (sa (n + i) + k))) → post (nI (LL K (cs n) sa (n + i) + 1 + (j - sm (pcs K ow cs n sa) i))) (nI (LL K (cs n) sa (n + i) + 1 + (j - sm (pcs K ow cs n sa) i))) tb') :
    vc_SI_piece kz 16384 text owners starts (nI n) (nI (cs n)) so pz post thr tl tb := by
  have hd := h.1
  have hN := doc_N hd
  have hb := sm_bound hd hs
  have bT := hb (cs n - n) (Nat.le_refl _)
  unfold vc_SI_piece vc_SI_piece_18
  rw [lg_cmp_lt]
  refine ⟨fun q => h0 (fun j hj => lN_neg q j (by omega)), fun q => s_pieces hd hpz ?_⟩
  obtain ⟨j, hj, e⟩ := pk_lOf q
  subst e
  rw [lg_cmp_lt, pk_lLT hj (by omega)]
  refine ⟨fun q2 => ?_, fun q2 => h0 (fun k hk e => ?_)⟩
  · obtain ⟨i, i1, i2, i3⟩ := sm_find _ _ _ q2
    have s1 := hs.1 (n + i) (by omega)
    have ll := LL_len hd hs (show n + i < cs n by omega)
    have le := lenf_le hd s1.1
    have b1 := hb (i + 1) (by omega)
    have es : sm (pcs K ow cs n sa) (i + 1) = sm (pcs K ow cs n sa) i + (lenf ow cs (sa (n + i)) - LL K (cs n) sa (n + i)) := rfl
    refine s_rankOfPiece hd hs hpz (by omega) i2 i3 ⟨(vpI (by omega)).mpr (by omega), ?_⟩
    unfold vc_OR_lengthOfPiece
    refine s_rankOfPiece hd hs hpz (by omega) i2 i3 ?_
    rw [nI_clamp (by omega), hso _ (by omega)]
    refine ⟨(vpI (by omega)).mpr (by omega), (vpI (by omega)).mpr (by omega), s_lengthFrom h s1.1 ?_⟩
    rw [hpz i (by omega), l1, nI_l (by omega), lN_sub (by omega), lN_sub (by omega), lN_sub (by omega), lN_i,
      show lenf ow cs (sa (n + i)) - (sm (pcs K ow cs n sa) (i + 1) - 1 - j) = LL K (cs n) sa (n + i) + 1 + (j - sm (pcs K ow cs n sa) i) by omega]
    exact s_tell h (fun _ => ⟨rfl, s1.1, by omega⟩) (fun tb' ht => h1 j i rfl i1 i2 i3 tb' ht)
  · rw [pk_lEQ hj (by omega)] at e
    omega
theorem m_piece {row start dof odz sz rz : Nat → Int32} {K ow cs dm sa rk : Nat → Nat} {n : Nat} (h : LibM row start dof K ow cs dm n) (hs : SAok K (cs n) sa rk) (ho : OrdM odz rz sz K ow cs dm n sa rk) {kz : Int64} {th on : Int32} {oz : Nat → Int32}
    {post : Int32 → Int32 → Int32 → (Nat → Int32) → Prop}
    (h0 : (∀ j : Nat, j < sm (pcs K ow cs n sa) (cs n - n) → kz ≠ lN j) → post 0 1 on oz)
    (h1 : ∀ j i : Nat, kz = lN j → i < cs n - n → sm (pcs K ow cs n sa) i ≤ j → j < sm (pcs K ow cs n sa) (i + 1) → ∀ oz', (∀ k, k < LL K (cs n) sa (n + i) + 1 + (j - sm (pcs K ow cs n sa) i) → oz' k = bs (K (sa (n + i) + k))) → post (nI (LL K (cs n) sa (n + i) + 1 + (j - sm (pcs K ow cs n sa) i))) 0 (nI (LL K (cs n) sa (n + i) + 1 + (j - sm (pcs K ow cs n sa) i))) oz') :
    vc_MD_piece kz (nI (cs n - n)) row start dof odz sz post th on oz := by
  have hd := h.1
  have hS := doc_S hd
  have hb := sm_bound hd hs
  have bT := hb (cs n - n) (Nat.le_refl _)
  have no : (∀ j : Nat, j < sm (pcs K ow cs n sa) (cs n - n) → kz ≠ lN j) → vc_MD_piece_102 kz (nI (cs n - n)) row start dof odz sz post 0 on oz := by
    intro g
    unfold vc_MD_piece_102
    exact m_no (h0 g)
  by_cases q : kz < 0
  · refine ⟨1, ?_⟩
    rw [vc_MD_piece_10, lg_cmp_lt]
    have g := no (fun j hj => lN_neg q j (by omega))
    exact ⟨fun _ => g, fun _ => ⟨fun _ => g, fun c => absurd q c⟩⟩
  · obtain ⟨j, hj, e⟩ := pk_lOf q
    subst e
    have key : ∀ f i, i + f = cs n - n → sm (pcs K ow cs n sa) i ≤ j → vc_MD_piece_10 (lN j) (nI (cs n - n)) row start dof odz sz post (f + 1) (lN (j - sm (pcs K ow cs n sa) i)) (nI i) 0 on oz := by
      intro f
      induction f with
      | zero =>
        intro i hi hle
        rw [vc_MD_piece_10, nI_leI (by omega) (by omega)]
        refine ⟨fun _ => no (fun k hk e => ?_), fun c => absurd (by omega) c⟩
        rw [pk_lEQ hj (by omega)] at e
        rw [show i = cs n - n by omega] at hle
        omega
      | succ f ih =>
        intro i hi hle
        have o := m_ordAt h hs ho (show i < cs n - n by omega)
        have l1 := lenf_le hd o.2.2.2.1
        have l2 := LL_len hd hs (show n + i < cs n by omega)
        have es : sm (pcs K ow cs n sa) (i + 1) = sm (pcs K ow cs n sa) i + (lenf ow cs (sa (n + i)) - LL K (cs n) sa (n + i)) := rfl
        rw [vc_MD_piece_10, nI_leI (by omega) (by omega), lg_cmp_lt, nI_clamp (by omega), o.1, o.2.2.2.2]
        refine ⟨fun c => by omega, fun _ => ⟨fun c => absurd c q, fun _ => ⟨(vpI (by omega)).mpr (by omega), m_endOf h o.2.1 ⟨(vpI (by omega)).mpr (by omega), (vpI (by omega)).mpr (by omega), ?_⟩⟩⟩⟩
        rw [o.2.2.1, nI_subI (by omega), Nat.add_sub_cancel_left, nI_subI l2, nI_l (by omega), lg_cmp_ge, pk_lLE (by omega) (by omega)]
        refine ⟨fun c => ?_, fun c => ⟨(vpI (by omega)).mpr (by omega), (vpI (by omega)).mpr (by omega), ?_⟩⟩
        · rw [lN_sub c, nI_1]
          have := ih (i + 1) (by omega) (by omega)
          rw [show j - sm (pcs K ow cs n sa) (i + 1) = j - sm (pcs K ow cs n sa) i - (lenf ow cs (sa (n + i)) - LL K (cs n) sa (n + i)) by omega] at this
          exact this
        · rw [lN_i, nI_1, nI_add]
          refine m_tell h o.2.1 (by rw [o.2.2.1]; omega) (fun oz' ht => ?_)
          rw [o.2.2.1] at ht
          exact h1 j i rfl (by omega) hle (by omega) oz' ht
    have := key (cs n - n) 0 (by omega) (Nat.zero_le _)
    exact ⟨cs n - n + 1, this⟩
