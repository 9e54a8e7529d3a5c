/-! single -/
noncomputable def sgl (K cs sa rk : Nat → Nat) (n p : Nat) : Nat := max (LL K (cs n) sa (rk p)) (if rk p + 1 < cs n then LL K (cs n) sa (rk p + 1) else 0) + 1
noncomputable def sbl (K ow cs sa rk : Nat → Nat) (n d : Nat) : Nat → Nat
  | 0 => 0
  | k + 1 => if sgl K cs sa rk n (cs d + k) ≤ lenf ow cs (cs d + k) ∧ (sbl K ow cs sa rk n d k = 0 ∨ sgl K cs sa rk n (cs d + k) < sbl K ow cs sa rk n d k) then sgl K cs sa rk n (cs d + k) else sbl K ow cs sa rk n d k
noncomputable def sbp (K ow cs sa rk : Nat → Nat) (n d : Nat) : Nat → Nat
  | 0 => 0
  | k + 1 => if sgl K cs sa rk n (cs d + k) ≤ lenf ow cs (cs d + k) ∧ (sbl K ow cs sa rk n d k = 0 ∨ sgl K cs sa rk n (cs d + k) < sbl K ow cs sa rk n d k) then cs d + k else sbp K ow cs sa rk n d k
theorem sbl_at {K ow cs sa rk : Nat → Nat} {n d : Nat} : ∀ k, 0 < sbl K ow cs sa rk n d k → cs d ≤ sbp K ow cs sa rk n d k ∧ sbp K ow cs sa rk n d k < cs d + k ∧ sbl K ow cs sa rk n d k ≤ lenf ow cs (sbp K ow cs sa rk n d k) := by
  intro k
  induction k with
  | zero => intro h; simp [sbl] at h
  | succ k ih =>
    intro h
    simp only [sbl, sbp] at h ⊢
    split
    · rename_i q
      exact ⟨by omega, by omega, q.1⟩
    · rename_i q
      rw [if_neg q] at h
      have := ih h
      exact ⟨this.1, by omega, this.2.2⟩
theorem sgl_b {K ow cs sa rk : Nat → Nat} {n p : Nat} (hd : DocOk K ow cs n) (hs : SAok K (cs n) sa rk) (hp : p < cs n) : 1 ≤ sgl K cs sa rk n p ∧ sgl K cs sa rk n p < 16450 := by
  have a := hs.2.1 p hp
  have b := LL_lt hd hs a.1
  unfold sgl
  split
  · rename_i q
    have := LL_lt hd hs q
    omega
  · omega
theorem s_singleLength {rz ab : Nat → Int32} {K ow cs sa rk : Nat → Nat} {n p : Nat} (hd : DocOk K ow cs n) (hs : SAok K (cs n) sa rk) (hrz : ∀ p, p < cs n → rz p = nI (rk p)) (hab : ∀ r, r < cs n → ab r = nI (LL K (cs n) sa r)) (hp : p < cs n)
    {post : Int32 → Prop} (hpost : post (nI (sgl K cs sa rk n p))) : vc_OR_singleLength (nI p) (nI (cs n)) rz ab post := by
  have hN := doc_N hd
  have a := hs.2.1 p hp
  have b := LL_lt hd hs a.1
  unfold vc_OR_singleLength vc_OR_singleLength_29
  rw [nI_clamp (by omega), hrz p hp, nI_1, nI_leI (by omega) (by omega), nI_clamp (by omega), hab _ a.1]
  unfold sgl at hpost
  refine ⟨(vpI (by omega)).mpr (by omega), fun q => ⟨(vpI (by omega)).mpr (by omega), ?_⟩, fun q => ⟨(vpI (by omega)).mpr (by omega), (vpI (by omega)).mpr (by omega), ?_⟩⟩
  · rw [if_neg (by omega)] at hpost
    rw [li0, nI_maxI (by omega) (by omega), nI_1]
    exact hpost
  · have c := LL_lt hd hs (show rk p + 1 < cs n by omega)
    rw [if_pos (by omega)] at hpost
    rw [nI_clamp (by omega), hab _ (by omega), nI_maxI (by omega) (by omega), nI_1]
    exact hpost
theorem s_single {text owners starts rz ab : Nat → Int32} {K ow cs sa rk : Nat → Nat} {n : Nat} (h : LibC text owners starts K ow cs n) (hs : SAok K (cs n) sa rk) (hrz : ∀ p, p < cs n → rz p = nI (rk p)) (hab : ∀ r, r < cs n → ab r = nI (LL K (cs n) sa r)) {dz tl : Int32} {tb : Nat → Int32}
    {post : Int32 → Int32 → (Nat → Int32) → Prop} {thr : Nat → Int32 → (Nat → Int32) → Prop}
    (h0 : (∀ d : Nat, d < n → dz ≠ nI d) → thr 2 tl tb)
    (h1 : ∀ d : Nat, d < n → dz = nI d → ∀ tb', (∀ i, i < sbl K ow cs sa rk n d (cs (d + 1) - 1 - cs d) → tb' i = tx (K (sbp K ow cs sa rk n d (cs (d + 1) - 1 - cs d) + i))) → post (nI (sbl K ow cs sa rk n d (cs (d + 1) - 1 - cs d))) (nI (sbl K ow cs sa rk n d (cs (d + 1) - 1 - cs d))) tb') :
    vc_SI_single dz 16384 (nI n) text starts (nI (cs n)) rz ab post thr tl tb := by
  have hd := h.1
  have hN := doc_N hd
  have h64 := hd.2.2.2.1
  have hst := h.2.2.2
  unfold vc_SI_single vc_SI_checkIndexed vc_SI_checkIndexed_15
  refine ⟨fun q => h0 (fun d hdn => neg_ne q (by omega)), fun q => ?_⟩
  obtain ⟨d, hdb, e⟩ := nI_of q
  subst e
  rw [nI_ltI (by omega) (by omega)]
  refine ⟨fun dlt => ?_, fun q2 => h0 (fun d' hd' e => by rw [nI_eq (by omega) (by omega)] at e; omega)⟩
  have c2 := hd.2.1 d dlt
  have c3 := doc_mono hd (show d + 1 ≤ n by omega) (Nat.le_refl n)
  have h1' := h1 d dlt rfl
  unfold vc_LB_endOf
  rw [nI_1, nI_clamp (by omega), nI_clamp (by omega), hst _ (by omega), hst _ (by omega), li1, nI_subI (by omega)]
  refine ⟨(vpI (by omega)).mpr (by omega), (vpI (by omega)).mpr (by omega), cs (d + 1) - 1 - cs d + 1, ?_⟩
  have hin : ∀ k, k < cs (d + 1) - 1 - cs d → cs d + k < cs n ∧ lenf ow cs (cs d + k) = cs (d + 1) - 1 - (cs d + k) := by
    intro k hk
    have o := doc_own hd dlt (show cs d ≤ cs d + k by omega) (by omega)
    refine ⟨by omega, ?_⟩
    unfold lenf
    rw [o]
  have hsb : ∀ k, k ≤ cs (d + 1) - 1 - cs d → sbl K ow cs sa rk n d k < 16450 := by
    intro k hk
    by_cases g : 0 < sbl K ow cs sa rk n d k
    · have a := sbl_at k g
      have := lenf_le hd (show sbp K ow cs sa rk n d k < cs n by omega)
      omega
    · omega
  have key : ∀ f k bz, k + f = cs (d + 1) - 1 - cs d → (bz = if sbl K ow cs sa rk n d k = 0 then -nI 1 else nI (sbp K ow cs sa rk n d k)) →
      vc_SI_single_30 (nI d) 16384 (nI n) text starts (nI (cs n)) rz ab post thr (f + 1) bz (nI (sbl K ow cs sa rk n d k)) (nI (cs (d + 1) - 1)) (nI (cs d + k)) tl tb := by
    intro f
    induction f with
    | zero =>
      intro k bz hk hbz
      rw [vc_SI_single_30, nI_leI (by omega) (by omega)]
      refine ⟨fun _ => ?_, fun c => absurd (by omega) c⟩
      rw [show cs (d + 1) - 1 - cs d = k by omega] at h1'
      refine s_tell h (p := sbp K ow cs sa rk n d k) (fun g => ?_) h1'
      have a := sbl_at k g
      rw [if_neg (by omega)] at hbz
      exact ⟨hbz, by omega, a.2.2⟩
    | succ f ih =>
      intro k bz hk hbz
      have hi := hin k (by omega)
      have hb := sgl_b hd hs hi.1
      have hb2 := hsb k (by omega)
      have keep : ¬ (sgl K cs sa rk n (cs d + k) ≤ lenf ow cs (cs d + k) ∧ (sbl K ow cs sa rk n d k = 0 ∨ sgl K cs sa rk n (cs d + k) < sbl K ow cs sa rk n d k)) →
          vc_SI_single_75 (nI d) 16384 (nI n) text starts (nI (cs n)) rz ab post thr (fun x2' x3' x4' x5' z_told_length' z_told_bytes' => vc_SI_single_30 (nI d) 16384 (nI n) text starts (nI (cs n)) rz ab post thr (f + 1) x2' x3' x4' x5' z_told_length' z_told_bytes') bz (nI (sbl K ow cs sa rk n d k)) (nI (cs (d + 1) - 1)) (nI (cs d + k)) tl tb := by
        intro c
        unfold vc_SI_single_75
        have e1 : sbl K ow cs sa rk n d (k + 1) = sbl K ow cs sa rk n d k := by
          simp only [sbl]; rw [if_neg c]
        have e2 : sbp K ow cs sa rk n d (k + 1) = sbp K ow cs sa rk n d k := by
          simp only [sbp]; rw [if_neg c]
        have := ih (k + 1) bz (by omega) (by rw [e1, e2]; exact hbz)
        rw [e1] at this
        rw [nI_1]
        exact this
      have take : (sgl K cs sa rk n (cs d + k) ≤ lenf ow cs (cs d + k) ∧ (sbl K ow cs sa rk n d k = 0 ∨ sgl K cs sa rk n (cs d + k) < sbl K ow cs sa rk n d k)) →
          vc_SI_single_69 (nI d) 16384 (nI n) text starts (nI (cs n)) rz ab post thr (fun x2' x3' x4' x5' z_told_length' z_told_bytes' => vc_SI_single_30 (nI d) 16384 (nI n) text starts (nI (cs n)) rz ab post thr (f + 1) x2' x3' x4' x5' z_told_length' z_told_bytes') (nI (cs (d + 1) - 1)) (nI (cs d + k)) (nI (sgl K cs sa rk n (cs d + k))) tl tb := by
        intro c
        unfold vc_SI_single_69 vc_SI_single_75
        have e1 : sbl K ow cs sa rk n d (k + 1) = sgl K cs sa rk n (cs d + k) := by
          simp only [sbl]; rw [if_pos c]
        have e2 : sbp K ow cs sa rk n d (k + 1) = cs d + k := by
          simp only [sbp]; rw [if_pos c]
        have := ih (k + 1) (nI (cs d + k)) (by omega) (by rw [e1, e2, if_neg (by omega)])
        rw [e1] at this
        rw [nI_1]
        exact this
      rw [vc_SI_single_30, nI_leI (by omega) (by omega)]
      refine ⟨fun c => by omega, fun _ => s_singleLength hd hs hrz hab hi.1 ?_⟩
      rw [nI_subI (by omega), nI_ltI (by omega) (by omega), nI_leI (by omega) (by omega), li1]
      refine ⟨fun c => keep (fun g => by omega), fun c => ⟨fun c2 => take ⟨by omega, ?_⟩, fun c2 => ⟨fun c3 => keep (fun g => ?_), fun c3 => take ⟨by omega, Or.inr (by omega)⟩⟩⟩⟩
      · by_cases g : sbl K ow cs sa rk n d k = 0
        · exact Or.inl g
        · rw [if_neg g] at hbz
          rw [hbz, nI_ne1 (by have := sbl_at k (show 0 < sbl K ow cs sa rk n d k by omega); omega)] at c2
          exact absurd c2 id
      · rcases g.2 with g2 | g2
        · rw [if_pos g2] at hbz
          exact c2 hbz
        · omega
  have := key (cs (d + 1) - 1 - cs d) 0 (-nI 1) (by omega) rfl
  exact this
theorem m_noDoc {n : Nat} (hn : n ≤ 64) {dz th : Int32} {post : Int32 → Int32 → Prop} (h0 : (∀ d : Nat, d < n → dz ≠ nI d) → post (nI 1) 1) (h1 : ∀ d : Nat, d < n → dz = nI d → post (nI 0) 0) : vc_MD_noDocument dz (nI n) post th := by
  unfold vc_MD_noDocument vc_MD_noDocument_19 vc_MD_noDocument_24
  refine ⟨fun q => m_no ⟨by decide, h0 (fun d hdn => neg_ne q (by omega))⟩, fun q => ?_⟩
  obtain ⟨d, hdb, e⟩ := nI_of q
  subst e
  rw [nI_ltI (by omega) (by omega)]
  refine ⟨fun c => m_ok ⟨by decide, h1 d c rfl⟩, fun c => m_no ⟨by decide, h0 (fun d' hd' e => by rw [nI_eq (by omega) (by omega)] at e; omega)⟩⟩
theorem m_single {row start dof odz sz rz : Nat → Int32} {K ow cs dm sa rk : Nat → Nat} {n : Nat} (h : LibM row start dof K ow cs dm n) (hs : SAok K (cs n) sa rk) (ho : OrdM odz rz sz K ow cs dm n sa rk) {dz th on : Int32} {oz : Nat → Int32}
    {post : Int32 → Int32 → Int32 → (Nat → Int32) → Prop}
    (h0 : (∀ d : Nat, d < n → dz ≠ nI d) → post 0 1 on oz)
    (h1 : ∀ d : Nat, d < n → dz = nI d → ∀ oz', (∀ i, i < sbl K ow cs sa rk n d (cs (d + 1) - 1 - cs d) → oz' i = bs (K (sbp K ow cs sa rk n d (cs (d + 1) - 1 - cs d) + i))) → post (nI (sbl K ow cs sa rk n d (cs (d + 1) - 1 - cs d))) 0 (nI (sbl K ow cs sa rk n d (cs (d + 1) - 1 - cs d))) oz') :
    vc_MD_single dz (nI n) (nI (cs n - n)) row start rz sz post th on oz := by
  have hd := h.1
  have hN := doc_N hd
  have hS := doc_S hd
  have h64 := hd.2.2.2.1
  have hst := h.2.2.2.2
  unfold vc_MD_single
  refine m_noDoc h64 (fun g => ⟨fun e => absurd e (by decide), fun _ => h0 g⟩) (fun d dlt e => ⟨fun _ => ?_, fun g => absurd rfl g⟩)
  have h1' := h1 d dlt e
  subst e
  have c2 := hd.2.1 d dlt
  have c3 := doc_mono hd (show d + 1 ≤ n by omega) (Nat.le_refl n)
  have c4 := doc_mono hd (show 0 ≤ d by omega) (show d ≤ n by omega)
  have hin : ∀ k, k < cs (d + 1) - 1 - cs d → cs d - d + k < cs n - n ∧ dm (cs d - d + k) = d ∧ cs d + k < cs n ∧ lenf ow cs (cs d + k) = cs (d + 1) - 1 - (cs d + k) ∧ 64 ≤ K (cs d + k) ∧ n ≤ rk (cs d + k) := by
    intro k hk
    have o := doc_own hd dlt (show cs d ≤ cs d + k by omega) (by omega)
    have kk := (hd.2.2.1 d (cs d + k) dlt (by omega) (by omega)).2.2 (by omega)
    have e := dm_of hd h.2.1 (show cs d + k < cs n by omega) kk.1
    rw [o] at e
    have r := hs.2.1 (cs d + k) (by omega)
    have mk := SA_mark_iff hd hs r.1
    rw [r.2] at mk
    rw [show cs d - d + k = cs d + k - d by omega]
    refine ⟨e.1, e.2.1, by omega, ?_, kk.1, by omega⟩
    unfold lenf
    rw [o]
  have hsb : ∀ k, k ≤ cs (d + 1) - 1 - cs d → sbl K ow cs sa rk n d k < 16450 := by
    intro k hk
    by_cases g : 0 < sbl K ow cs sa rk n d k
    · have a := sbl_at k g
      have := lenf_le hd (show sbp K ow cs sa rk n d k < cs n by omega)
      omega
    · omega
  rw [nI_clamp (by omega), hst d (by omega)]
  refine ⟨(vpI (by omega)).mpr (by omega), cs (d + 1) - 1 - cs d + 1, ?_⟩
  have key : ∀ f k bz, k + f = cs (d + 1) - 1 - cs d → (bz = if sbl K ow cs sa rk n d k = 0 then nI 0 else nI (sbp K ow cs sa rk n d k - d)) →
      vc_MD_single_22 (nI d) (nI n) (nI (cs n - n)) row start rz sz post (f + 1) (nI (sbl K ow cs sa rk n d k)) bz (nI (cs d - d + k)) 0 on oz := by
    intro f
    induction f with
    | zero =>
      intro k bz hk hbz
      rw [vc_MD_single_22, nI_1, nI_clamp (by omega), hst _ (by omega), nI_leI (by omega) (by omega)]
      refine ⟨(vpI (by omega)).mpr (by omega), fun _ => ?_, fun c => absurd (by omega) c⟩
      rw [show cs (d + 1) - 1 - cs d = k by omega] at h1'
      by_cases g : sbl K ow cs sa rk n d k = 0
      · rw [g] at h1' ⊢
        exact m_tell0 (h1' oz (fun i hi => by omega))
      · have a := sbl_at (K := K) (ow := ow) (cs := cs) (sa := sa) (rk := rk) (n := n) (d := d) k (by omega)
        have i1 := hin (sbp K ow cs sa rk n d k - cs d) (by omega)
        rw [if_neg g] at hbz
        rw [hbz, show sbp K ow cs sa rk n d k - d = cs d - d + (sbp K ow cs sa rk n d k - cs d) by omega]
        have ecp : cs d - d + (sbp K ow cs sa rk n d k - cs d) + dm (cs d - d + (sbp K ow cs sa rk n d k - cs d)) = sbp K ow cs sa rk n d k := by rw [i1.2.1]; omega
        refine m_tell h i1.1 (by rw [ecp]; omega) (fun oz' ht => h1' oz' (fun i hi => ?_))
        rw [ht i hi, ecp]
    | succ f ih =>
      intro k bz hk hbz
      have hi := hin k (by omega)
      have hb := sgl_b hd hs hi.2.2.1
      have hb2 := hsb k (by omega)
      have r := hs.2.1 (cs d + k) hi.2.2.1
      have ecp : cs d - d + k + dm (cs d - d + k) = cs d + k := by rw [hi.2.1]; omega
      have erz := ho.2.1 (cs d - d + k) hi.1
      rw [ecp] at erz
      have l1 := LL_lt hd hs r.1
      have keep : ¬ (sgl K cs sa rk n (cs d + k) ≤ lenf ow cs (cs d + k) ∧ (sbl K ow cs sa rk n d k = 0 ∨ sgl K cs sa rk n (cs d + k) < sbl K ow cs sa rk n d k)) →
          vc_MD_single_117 (nI d) (nI n) (nI (cs n - n)) row start rz sz post (fun x2' x3' x4' z_thrown' z_outSize' z_out' => vc_MD_single_22 (nI d) (nI n) (nI (cs n - n)) row start rz sz post (f + 1) x2' x3' x4' z_thrown' z_outSize' z_out') (nI (sbl K ow cs sa rk n d k)) bz (nI (cs d - d + k)) 0 on oz := by
        intro c
        unfold vc_MD_single_117
        have e1 : sbl K ow cs sa rk n d (k + 1) = sbl K ow cs sa rk n d k := by
          simp only [sbl]; rw [if_neg c]
        have e2 : sbp K ow cs sa rk n d (k + 1) = sbp K ow cs sa rk n d k := by
          simp only [sbp]; rw [if_neg c]
        have := ih (k + 1) bz (by omega) (by rw [e1, e2]; exact hbz)
        rw [e1] at this
        rw [nI_1]
        exact this
      have take : (sgl K cs sa rk n (cs d + k) ≤ lenf ow cs (cs d + k) ∧ (sbl K ow cs sa rk n d k = 0 ∨ sgl K cs sa rk n (cs d + k) < sbl K ow cs sa rk n d k)) →
          vc_MD_single_111 (nI d) (nI n) (nI (cs n - n)) row start rz sz post (fun x2' x3' x4' z_thrown' z_outSize' z_out' => vc_MD_single_22 (nI d) (nI n) (nI (cs n - n)) row start rz sz post (f + 1) x2' x3' x4' z_thrown' z_outSize' z_out') (nI (cs d - d + k)) (nI (sgl K cs sa rk n (cs d + k))) 0 on oz := by
        intro c
        unfold vc_MD_single_111 vc_MD_single_117
        have e1 : sbl K ow cs sa rk n d (k + 1) = sgl K cs sa rk n (cs d + k) := by
          simp only [sbl]; rw [if_pos c]
        have e2 : sbp K ow cs sa rk n d (k + 1) = cs d + k := by
          simp only [sbp]; rw [if_pos c]
        have := ih (k + 1) (nI (cs d - d + k)) (by omega) (by rw [e1, e2, if_neg (by omega), show cs d + k - d = cs d - d + k by omega])
        rw [e1] at this
        rw [nI_1]
        exact this
      -- the step, with the length at hand
      have step : ∀ v2, max (LL K (cs n) sa (rk (cs d + k))) v2 + 1 = sgl K cs sa rk n (cs d + k) → v2 < 20000 →
          vc_MD_single_76 (nI d) (nI n) (nI (cs n - n)) row start rz sz post (fun x2' x3' x4' z_thrown' z_outSize' z_out' => vc_MD_single_22 (nI d) (nI n) (nI (cs n - n)) row start rz sz post (f + 1) x2' x3' x4' z_thrown' z_outSize' z_out') (nI (sbl K ow cs sa rk n d k)) bz (nI (cs d - d + k)) 1 (nI (LL K (cs n) sa (rk (cs d + k)))) (nI v2) 0 on oz := by
        intro v2 hv hv2
        unfold vc_MD_single_76
        rw [nI_maxI (by omega) (by omega), nI_1, nI_clamp (by omega), hst _ (by omega), li1, nI_add, show 1 + max (LL K (cs n) sa (rk (cs d + k))) v2 = sgl K cs sa rk n (cs d + k) by omega, nI_add, nI_ltI (by omega) (by omega), li0, nI_leI (by omega) (by omega), nI_ltI (a := sgl K cs sa rk n (cs d + k)) (by omega) (by omega)]
        refine ⟨(vpI (by omega)).mpr (by omega), fun c => keep (fun g => by omega), fun c => ⟨fun c2 => take ⟨by omega, Or.inl (by omega)⟩, fun c2 => ⟨fun c3 => take ⟨by omega, Or.inr c3⟩, fun c3 => keep (fun g => by omega)⟩⟩⟩
      rw [vc_MD_single_22, nI_1, nI_clamp (n := d + 1) (by omega), hst _ (by omega), nI_leI (by omega) (by omega), nI_clamp (n := cs d - d + k) (by omega), erz, nI_1, nI_clamp (n := rk (cs d + k) - n) (by omega), ho.2.2 _ (by omega), show n + (rk (cs d + k) - n) = rk (cs d + k) by omega, nI_leI (by omega) (by omega)]
      refine ⟨(vpI (by omega)).mpr (by omega), fun c => by omega, fun _ => ⟨(vpI (by omega)).mpr (by omega), (vpI (by omega)).mpr (by omega), fun c => step 0 ?_ (by omega), fun c => ⟨(vpI (by omega)).mpr (by omega), ?_⟩⟩⟩
      · unfold sgl
        rw [if_neg (by omega)]
      · have l2 := LL_lt hd hs (show rk (cs d + k) + 1 < cs n by omega)
        rw [nI_clamp (by omega), ho.2.2 _ (by omega), show n + (rk (cs d + k) - n + 1) = rk (cs d + k) + 1 by omega]
        refine step _ ?_ (by omega)
        unfold sgl
        rw [if_pos (by omega)]
  have := key (cs (d + 1) - 1 - cs d) 0 (nI 0) (by omega) rfl
  exact this
