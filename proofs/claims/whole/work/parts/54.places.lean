/-! wheres -/
theorem s_positionOf {text owners starts : Nat → Int32} {K ow cs : Nat → Nat} {n : Nat} (h : LibC text owners starts K ow cs n) {w : Int32} {post : Int32 → Prop}
    (h1 : ∀ d k : Nat, d < n → cs d + k < cs (d + 1) - 1 → w = nI (d * 65536 + k) → post (nI (cs d + k)))
    (h0 : (∀ d k : Nat, d < n → cs d + k < cs (d + 1) - 1 → w ≠ nI (d * 65536 + k)) → post (-nI 1)) : vc_LB_positionOf w (nI n) starts post := by
  obtain ⟨hd, ht, ho, hst⟩ := h
  have hN := doc_N hd
  have h64 := hd.2.2.2.1
  have kb : ∀ d k : Nat, d < n → cs d + k < cs (d + 1) - 1 → k < 65536 ∧ d * 65536 + k < 2147483648 := by
    intro d k hdn hk
    have := doc_mono hd (show d + 1 ≤ n by omega) (Nat.le_refl n)
    omega
  unfold vc_LB_positionOf
  rcases nI_cases w with g | ⟨j, hj, e⟩
  · have hneg : (∀ d k : Nat, d < n → cs d + k < cs (d + 1) - 1 → w ≠ nI (d * 65536 + k)) := fun d k hdn hk => neg_ne g (kb d k hdn hk).2
    refine ⟨fun c => absurd c ?_, fun _ => h0 hneg⟩
    exact neg_nle (n := 0) g (by omega)
  · subst e
    have ed : nI j / 65536 = nI (j / 65536) := pk_div (d := 65536) (by omega) (by omega) (by omega)
    have er : nI j - nI j / 65536 * 65536 = nI (j % 65536) := pk_rem (d := 65536) (by omega) (by omega) (by omega)
    have eno : (n ≤ j / 65536 ∨ ¬ cs (j / 65536) + j % 65536 < cs (j / 65536 + 1) - 1) → ∀ d k : Nat, d < n → cs d + k < cs (d + 1) - 1 → nI j ≠ nI (d * 65536 + k) := by
      intro c d k hdn hk e
      have b := kb d k hdn hk
      rw [nI_eq (by omega) (by omega)] at e
      have e1 : j / 65536 = d := by omega
      have e2 : j % 65536 = k := by omega
      rw [e1, e2] at c
      omega
    rw [er, ed, nI_leI (by omega) (by omega)]
    refine ⟨fun _ => ⟨fun c => h0 (eno (Or.inl c)), fun c => ?_⟩, fun c => absurd (nI_pos' (by omega)) c⟩
    have dlt : j / 65536 < n := by omega
    have c2 := hd.2.1 _ dlt
    have c3 := doc_mono hd (show j / 65536 + 1 ≤ n by omega) (Nat.le_refl n)
    unfold vc_LB_endOf
    rw [nI_1, nI_clamp (by omega), nI_clamp (by omega), hst _ (by omega), hst _ (by omega), li1, nI_subI (by omega)]
    dsimp only
    rw [nI_subI (by omega), nI_ltI (by omega) (by omega), nI_add]
    refine ⟨(vpI (by omega)).mpr (by omega), (vpI (by omega)).mpr (by omega), fun c4 => ⟨(vpI (by omega)).mpr (by omega), ?_⟩, fun c4 => h0 (eno (Or.inr (by omega)))⟩
    refine h1 (j / 65536) (j % 65536) dlt (by omega) ?_
    congr 1
    omega
theorem shr16 {j : Nat} (hj : j < 2147483648) : nI j >>> ((16 : Int32) &&& 31) = nI (j / 65536) := pk_shrN (by omega) _ 16 (by decide)
theorem and16 {j : Nat} (hj : j < 2147483648) : nI j &&& 65535 = nI (j % 65536) := pk_andN (by omega) 16 (by decide)
theorem shr16_neg {w : Int32} (h : w < 0) : w >>> ((16 : Int32) &&& 31) < 0 := by
  rw [Int32.lt_iff_toInt_lt] at h ⊢
  rw [pk_shr w _ 16 (by decide), Int.shiftRight_eq_div_pow]
  have e0 : (0 : Int32).toInt = 0 := by decide
  rw [e0] at h ⊢
  omega
theorem m_placeOf {row start dof : Nat → Int32} {K ow cs dm : Nat → Nat} {n : Nat} (h : LibM row start dof K ow cs dm n) {w : Int32} {post : Int32 → Prop}
    (h1 : ∀ d k : Nat, d < n → cs d + k < cs (d + 1) - 1 → w = nI (d * 65536 + k) → post (nI (cs d + k - d)))
    (h0 : (∀ d k : Nat, d < n → cs d + k < cs (d + 1) - 1 → w ≠ nI (d * 65536 + k)) → post (-nI 1)) : vc_MD_placeOf w (nI n) start post := by
  have hd := h.1
  have hst := h.2.2.2.2
  have hN := doc_N hd
  have h64 := hd.2.2.2.1
  have kb : ∀ d k : Nat, d < n → cs d + k < cs (d + 1) - 1 → k < 65536 ∧ d * 65536 + k < 2147483648 := by
    intro d k hdn hk
    have := doc_mono hd (show d + 1 ≤ n by omega) (Nat.le_refl n)
    omega
  unfold vc_MD_placeOf vc_MD_placeOf_41
  rcases nI_cases w with g | ⟨j, hj, e⟩
  · have hneg : (∀ d k : Nat, d < n → cs d + k < cs (d + 1) - 1 → w ≠ nI (d * 65536 + k)) := fun d k hdn hk => neg_ne g (kb d k hdn hk).2
    exact ⟨fun _ => h0 hneg, fun c => absurd (shr16_neg g) c⟩
  · subst e
    have eno : (n ≤ j / 65536 ∨ ¬ cs (j / 65536) + j % 65536 < cs (j / 65536 + 1) - 1) → ∀ d k : Nat, d < n → cs d + k < cs (d + 1) - 1 → nI j ≠ nI (d * 65536 + k) := by
      intro c d k hdn hk e
      have b := kb d k hdn hk
      rw [nI_eq (by omega) (by omega)] at e
      have e1 : j / 65536 = d := by omega
      have e2 : j % 65536 = k := by omega
      rw [e1, e2] at c
      omega
    rw [shr16 hj, and16 hj, nI_leI (by omega) (by omega)]
    refine ⟨fun c => absurd c (ls_nI (by omega)), fun _ => ⟨fun c => h0 (eno (Or.inl c)), fun c => ?_⟩⟩
    have dlt : j / 65536 < n := by omega
    have c2 := hd.2.1 _ dlt
    have c3 := doc_mono hd (show j / 65536 + 1 ≤ n by omega) (Nat.le_refl n)
    have c4 := doc_mono hd (show 0 ≤ j / 65536 by omega) (show j / 65536 ≤ n by omega)
    rw [nI_1, nI_clamp (by omega), nI_clamp (by omega), hst _ (by omega), hst _ (by omega), nI_subI (by omega), nI_ltI (by omega) (by omega), nI_add]
    refine ⟨(vpI (by omega)).mpr (by omega), (vpI (by omega)).mpr (by omega), fun c5 => ⟨(vpI (by omega)).mpr (by omega), ?_⟩, fun c5 => h0 (eno (Or.inr (by omega)))⟩
    have := h1 (j / 65536) (j % 65536) dlt (by omega) (by congr 1; omega)
    rw [show cs (j / 65536) + j % 65536 - j / 65536 = cs (j / 65536) - j / 65536 + j % 65536 by omega] at this
    exact this
/-- a position of a document, in both counts -/
theorem at_place {K ow cs dm : Nat → Nat} {n d k : Nat} (hd : DocOk K ow cs n) (hm : DocM cs dm n) (hdn : d < n) (hk : cs d + k < cs (d + 1) - 1) :
    cs d + k < cs n ∧ ow (cs d + k) = d ∧ cs d + k - d < cs n - n ∧ cs d + k - d + dm (cs d + k - d) = cs d + k ∧ 64 ≤ K (cs d + k) ∧ K (cs d + k) < 320 ∧ d ≤ cs d := by
  have c3 := doc_mono hd (show d + 1 ≤ n by omega) (Nat.le_refl n)
  have c4 := doc_mono hd (show 0 ≤ d by omega) (show d ≤ n by omega)
  have o := doc_own hd hdn (show cs d ≤ cs d + k by omega) (by omega)
  have kk := (hd.2.2.1 d (cs d + k) hdn (by omega) (by omega)).2.2 (by omega)
  have e := dm_of hd hm (show cs d + k < cs n by omega) kk.1
  rw [o] at e
  exact ⟨by omega, o, e.1, by rw [e.2.1]; omega, kk.1, kk.2, by omega⟩
theorem s_indexed {text owners starts : Nat → Int32} {K ow cs : Nat → Nat} {n : Nat} (h : LibC text owners starts K ow cs n) {w : Int32} {post : Int32 → Prop} {thr : Nat → Prop}
    (h1 : ∀ d k : Nat, d < n → cs d + k < cs (d + 1) - 1 → w = nI (d * 65536 + k) → post (nI (cs d + k)))
    (h0 : (∀ d k : Nat, d < n → cs d + k < cs (d + 1) - 1 → w ≠ nI (d * 65536 + k)) → thr 2) : vc_SI_indexedPosition w (nI n) starts post thr := by
  have hN := doc_N h.1
  unfold vc_SI_indexedPosition
  rw [li1]
  refine s_positionOf h (fun d k hdn hk e => ?_) (fun g => ⟨fun c => absurd rfl c, fun _ => h0 g⟩)
  have c3 := doc_mono h.1 (show d + 1 ≤ n by omega) (Nat.le_refl n)
  rw [nI_ne1 (by omega)]
  exact ⟨fun _ => h1 d k hdn hk e, fun c => absurd c id⟩
