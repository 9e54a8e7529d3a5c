/-! matched and most of the reference -/
noncomputable def bsm (K cs dm sk : Nat → Nat) (n m i : Nat) : Nat → Nat
  | 0 => 0
  | x + 1 => max (bsm K cs dm sk n m i x) (lw K (cs n) sk m i (x + dm x))
theorem bsm_bst {K ow cs dm sk : Nat → Nat} {n m i : Nat} (hd : DocOk K ow cs n) (hm : DocM cs dm n) (hsk : ∀ i, i < m → 64 ≤ sk i ∧ sk i < 320) (hm2 : m ≤ 200) (hi : i ≤ m) : bsm K cs dm sk n m i (cs n - n) = bst K cs sk n m i (cs n) := by
  have ge : ∀ N x, x < N → lw K (cs n) sk m i (x + dm x) ≤ bsm K cs dm sk n m i N := by
    intro N
    induction N with
    | zero => intro x hx; omega
    | succ N ih =>
      intro x hx
      show _ ≤ max _ _
      by_cases e : x = N
      · rw [e]; omega
      · have := ih x (by omega); omega
  have le : ∀ N, N ≤ cs n - n → bsm K cs dm sk n m i N ≤ bst K cs sk n m i (cs n) := by
    intro N
    induction N with
    | zero => intro _; exact Nat.zero_le _
    | succ N ih =>
      intro h
      show max _ _ ≤ _
      have a := ih (by omega)
      have b := bst_ge (K := K) (cs := cs) (sk := sk) (n := n) (m := m) (i := i) (cs n) _ (dm_at hd hm (show N < cs n - n by omega)).2.1
      omega
  have h1 := le _ (Nat.le_refl _)
  have h2 : bst K cs sk n m i (cs n) ≤ bsm K cs dm sk n m i (cs n - n) := bst_le _ (fun p hp => by
    by_cases k : K p < 64
    · have := (lw_ex hd hsk hm2 hi hp).2.1
      have := (doc_len0 hd hp).mp k
      omega
    · have a := dm_of hd hm hp (by omega)
      have := ge _ _ a.1
      rw [a.2.1, show p - ow p + ow p = p by omega] at this
      exact this)
  omega
theorem m_matched {row start dof sz : Nat → Int32} {K ow cs dm sk : Nat → Nat} {n m : Nat} (h : LibM row start dof K ow cs dm n) (hsk : ∀ i, i < m → 64 ≤ sk i ∧ sk i < 320) (hsz : ∀ i, i < m → sz i = bs (sk i)) (hm : m ≤ 200) {th : Int32}
    {post : Int32 → Int32 → Prop} (h0 : m = 0 → post 0 1) (h1 : 1 ≤ m → post (nI (sm (fun i => bst K cs sk n m i (cs n)) m)) 0) : vc_MD_matched (nI m) (nI (cs n - n)) row sz start dof post th := by
  have hd := h.1
  have hS := doc_S hd
  have hlw : ∀ i x, i ≤ m → x < cs n - n → lw K (cs n) sk m i (x + dm x) ≤ 200 := fun i x hi hx => by
    have := (lw_ex hd hsk hm hi (dm_at hd h.2.1 hx).2.1).1
    omega
  have hbs : ∀ i x, i ≤ m → x ≤ cs n - n → bsm K cs dm sk n m i x ≤ 200 := by
    intro i x hi
    induction x with
    | zero => intro _; exact Nat.zero_le _
    | succ x ih =>
      intro hx
      show max _ _ ≤ _
      have := ih (by omega)
      have := hlw i x hi (by omega)
      omega
  have hb : ∀ i, i < m → bst K cs sk n m i (cs n) ≤ 200 := fun i hi => bst_le _ (fun p hp => by have := (lw_ex hd hsk hm (show i ≤ m by omega) hp).1; omega)
  have hsm : ∀ k, k ≤ m → sm (fun i => bst K cs sk n m i (cs n)) k ≤ 40000 := by
    intro k hk
    have := sm_le (f := fun i => bst K cs sk n m i (cs n)) (b := 200) k (fun i hi => hb i (by omega))
    omega
  have key31 : ∀ f i, i + f = m → 1 ≤ m → vc_MD_matched_31 (nI m) (nI (cs n - n)) row sz start dof post (f + 1) (nI (sm (fun i => bst K cs sk n m i (cs n)) i)) (nI i) 0 := by
    intro f
    induction f with
    | zero =>
      intro i hi hm1
      have e : i = m := by omega
      subst e
      rw [vc_MD_matched_31, nI_leI (by omega) (by omega)]
      exact ⟨fun _ => h1 hm1, fun q => absurd (Nat.le_refl _) q⟩
    | succ f ih =>
      intro i hi hm1
      rw [vc_MD_matched_31, nI_leI (by omega) (by omega)]
      refine ⟨fun q => by omega, fun _ => ⟨cs n - n + 1, ?_⟩⟩
      have key44 : ∀ g x, x + g = cs n - n → vc_MD_matched_44 (nI m) (nI (cs n - n)) row sz start dof post (fun x1' x2' z_thrown' => vc_MD_matched_31 (nI m) (nI (cs n - n)) row sz start dof post (f + 1) x1' x2' z_thrown') (g + 1) (nI (sm (fun i => bst K cs sk n m i (cs n)) i)) (nI i) (nI (bsm K cs dm sk n m i x)) (nI x) 0 := by
        intro g
        induction g with
        | zero =>
          intro x hx
          rw [vc_MD_matched_44, nI_leI (by omega) (by omega)]
          refine ⟨fun _ => ?_, fun q => absurd (by omega) q⟩
          rw [show x = cs n - n by omega, bsm_bst hd h.2.1 hsk hm (by omega), nI_add, nI_1]
          exact ih (i + 1) (by omega) hm1
        | succ g ih2 =>
          intro x hx
          rw [vc_MD_matched_44, nI_leI (by omega) (by omega)]
          refine ⟨fun q => by omega, fun _ => ⟨lw K (cs n) sk m i (x + dm x) + 1, ?_⟩⟩
          have xl : x < cs n - n := by omega
          have a := dm_at hd h.2.1 xl
          have w := lw_ex hd hsk hm (show i ≤ m by omega) a.2.1
          have wl := hlw i x (by omega) xl
          have bl := hbs i x (by omega) (by omega)
          have out : vc_MD_matched_109 (nI m) (nI (cs n - n)) row sz start dof post (fun x1' x2' x3' x4' z_thrown' => vc_MD_matched_44 (nI m) (nI (cs n - n)) row sz start dof post (fun x1' x2' z_thrown' => vc_MD_matched_31 (nI m) (nI (cs n - n)) row sz start dof post (f + 1) x1' x2' z_thrown') (g + 1) x1' x2' x3' x4' z_thrown') (nI (sm (fun i => bst K cs sk n m i (cs n)) i)) (nI i) (nI (bsm K cs dm sk n m i x)) (nI x) (nI (lw K (cs n) sk m i (x + dm x))) 0 := by
            unfold vc_MD_matched_109
            rw [nI_maxI (by omega) (by omega), nI_1]
            exact ih2 (x + 1) (by omega)
          have key56 : ∀ e j, j + e = lw K (cs n) sk m i (x + dm x) → vc_MD_matched_56 (nI m) (nI (cs n - n)) row sz start dof post (fun x1' x2' x3' x4' z_thrown' => vc_MD_matched_44 (nI m) (nI (cs n - n)) row sz start dof post (fun x1' x2' z_thrown' => vc_MD_matched_31 (nI m) (nI (cs n - n)) row sz start dof post (f + 1) x1' x2' z_thrown') (g + 1) x1' x2' x3' x4' z_thrown') (e + 1) (nI (sm (fun i => bst K cs sk n m i (cs n)) i)) (nI i) (nI (bsm K cs dm sk n m i x)) (nI x) (nI j) 0 := by
            intro e
            induction e with
            | zero =>
              intro j hj
              have ej : j = lw K (cs n) sk m i (x + dm x) := by omega
              rw [vc_MD_matched_56, nI_add, nI_leI (by omega) (by omega)]
              refine ⟨fun _ => by rw [ej]; exact out, fun q => m_endOf h xl ?_⟩
              rw [nI_add, nI_leI (by omega) (by omega)]
              refine ⟨fun _ => by rw [ej]; exact out, fun q2 => ?_⟩
              have r := m_row h xl (show j < lenf ow cs (x + dm x) by omega)
              have kk := hsk (i + j) (by omega)
              rw [nI_clamp (by omega), nI_clamp (by omega), r.1, hsz _ (by omega), bs_eq r.2.2.1 r.2.2.2 kk.1 kk.2]
              refine ⟨(vpI (by omega)).mpr (by omega), (vpI (by omega)).mpr (by omega), fun _ => by rw [ej]; exact out, fun g2 => ?_⟩
              rw [ej] at g2
              exact absurd g2.symm (w.2.2.2.1 (by omega))
            | succ e ih3 =>
              intro j hj
              rw [vc_MD_matched_56, nI_add, nI_leI (by omega) (by omega)]
              refine ⟨fun q => by omega, fun q => m_endOf h xl ?_⟩
              rw [nI_add, nI_leI (by omega) (by omega)]
              refine ⟨fun q2 => by omega, fun q2 => ?_⟩
              have r := m_row h xl (show j < lenf ow cs (x + dm x) by omega)
              have kk := hsk (i + j) (by omega)
              rw [nI_clamp (by omega), nI_clamp (by omega), r.1, hsz _ (by omega), bs_eq r.2.2.1 r.2.2.2 kk.1 kk.2]
              refine ⟨(vpI (by omega)).mpr (by omega), (vpI (by omega)).mpr (by omega), fun g2 => absurd (w.2.2.1 j (by omega)).symm g2, fun _ => ?_⟩
              rw [nI_1]
              exact ih3 (j + 1) (by omega)
          exact key56 _ 0 (by omega)
      exact key44 (cs n - n) 0 (by omega)
  unfold vc_MD_matched vc_MD_matched_19
  rw [li0, nI_eq (by omega) (by omega)]
  refine ⟨fun q => m_ok ⟨fun _ => ⟨m + 1, key31 m 0 (by omega) (by omega)⟩, fun g => absurd rfl g⟩, fun q => m_no ⟨fun g => absurd g (by decide), fun _ => h0 q⟩⟩
theorem oft_cnt {K ow cs dm sk : Nat → Nat} {n m d : Nat} (hd : DocOk K ow cs n) (hm : DocM cs dm n) (hsk : ∀ i, i < m → 64 ≤ sk i ∧ sk i < 320) (hm2 : m ≤ 200) (hdn : d < n) :
    cnt (fun y => std K (cs n) sk m (y + dm y) && decide (dm y = d)) (cs n - n) = oft K cs sk (cs n) m d := by
  have c1 := doc_mono hd (show d ≤ n by omega) (Nat.le_refl n)
  have c2 := hd.2.1 d hdn
  have c3 := doc_mono hd (show d + 1 ≤ n by omega) (Nat.le_refl n)
  have e1 : cnt (fun y => std K (cs n) sk m (y + dm y) && decide (dm y = d)) (cs n - n) = cnt (fun y => (fun p => std K (cs n) sk m p && decide (ow p = d)) (y + dm y)) (cs n - n) := by
    refine cnt_congr (fun y hy => ?_)
    show _ = (std K (cs n) sk m (y + dm y) && decide (ow (y + dm y) = d))
    rw [(dm_at hd hm hy).2.2.1]
  rw [e1, ← cnt_cpN (P := fun p => std K (cs n) sk m p && decide (ow p = d)) hd hm (fun p hp hk => by
    show (std K (cs n) sk m p && _) = false
    rw [std_mark hd hsk hm2 hp hk]; rfl)]
  have own : ∀ p, p < cs n → (ow p = d ↔ cs d ≤ p ∧ p < cs (d + 1)) := by
    intro p hp
    constructor
    · intro e
      have := doc_at hd hp
      rw [e] at this
      exact ⟨this.2.1, this.2.2.1⟩
    · rintro ⟨a, b⟩
      exact doc_own hd hdn a b
  rw [cnt_skip (show cs (d + 1) ≤ cs n by omega) (fun i h1 h2 => ?_)]
  · have g : ∀ k, cs d + k ≤ cs (d + 1) → cnt (fun p => std K (cs n) sk m p && decide (ow p = d)) (cs d + k) + cnt (std K (cs n) sk m) (cs d) = cnt (std K (cs n) sk m) (cs d + k) := by
      intro k
      induction k with
      | zero =>
        intro _
        rw [Nat.add_zero, cnt_none (fun j hj => ?_), Nat.zero_add]
        have : ¬ ow j = d := fun e => by have := (own j (by omega)).mp e; omega
        simp [this]
      | succ k ih =>
        intro hk
        have a := ih (by omega)
        have b := (own (cs d + k) (by omega)).mpr ⟨by omega, by omega⟩
        rw [show cs d + (k + 1) = cs d + k + 1 by omega]
        simp only [cnt]
        simp only [b, decide_true, Bool.and_true]
        omega
    have := g (cs (d + 1) - cs d) (by omega)
    rw [show cs d + (cs (d + 1) - cs d) = cs (d + 1) by omega] at this
    unfold oft
    omega
  · have : ¬ ow i = d := fun e => by have := (own i h2).mp e; omega
    simp [this]
/-- the reference's most, against the falling keys -/
theorem m_most {row start dof sz : Nat → Int32} {K ow cs dm sk : Nat → Nat} {n m : Nat} (h : LibM row start dof K ow cs dm n) (hsk : ∀ i, i < m → 64 ≤ sk i ∧ sk i < 320) (hsz : ∀ i, i < m → sz i = bs (sk i)) (hm : m ≤ 200) {ky : Nat → Nat} {dn : Nat}
    (k2 : ∀ i j, i < j → j < dn → ky j < ky i) (k3 : ∀ v, (∃ i, i < dn ∧ ky i = v) ↔ ∃ d, d < n ∧ 0 < oft K cs sk (cs n) m d ∧ v = okey K cs sk (cs n) m d) {iz th : Int32} {oz : Nat → Int32}
    {post : Int32 → Int32 → (Nat → Int32) → Prop}
    (h1 : ∀ j d oz', j < dn → iz = nI j → d < n → ky j = okey K cs sk (cs n) m d → post (nI (64 * oft K cs sk (cs n) m d + d)) 0 oz')
    (h0 : ∀ oz', (∀ j, j < dn → iz ≠ nI j) → post 0 1 oz') : vc_MD_most iz (nI m) (nI n) (nI (cs n - n)) row sz start dof post th oz := by
  have hd := h.1
  have hS := doc_S hd
  have h64 := hd.2.2.2.1
  have hN := doc_N hd
  have dofz := h.2.2.2.1
  have oftb : ∀ d, d < n → oft K cs sk (cs n) m d < 20000 := by
    intro d hd'
    have := cnt_le (std K (cs n) sk m) (cs (d + 1))
    have := doc_mono hd (show d + 1 ≤ n by omega) (Nat.le_refl n)
    unfold oft
    omega
  -- rounds
  have key93 : ∀ f t j oz, t + f = dn → iz = nI j → t ≤ j → j < 2147483648 → (∀ d, d < n → oz d = nI (if ∃ s, s < t ∧ ky s = okey K cs sk (cs n) m d then 0 else oft K cs sk (cs n) m d)) →
      vc_MD_most_93 iz (nI m) (nI n) (nI (cs n - n)) row sz start dof post (f + 1) (nI (j - t)) 0 oz := by
    intro f
    induction f with
    | zero =>
      intro t j oz hf ej htj hj hoz
      have et : t = dn := by omega
      subst et
      rw [vc_MD_most_93]
      refine ⟨n + 1, ?_⟩
      have hz : ∀ d, d < n → oz d = nI 0 := by
        intro d hdn
        rw [hoz d hdn]
        by_cases q : 0 < oft K cs sk (cs n) m d
        · obtain ⟨s, hs, e⟩ := (k3 (okey K cs sk (cs n) m d)).mpr ⟨d, hdn, q, rfl⟩
          rw [if_pos ⟨s, hs, e⟩]
        · split
          · rfl
          · rw [show oft K cs sk (cs n) m d = 0 by omega]
      have key98 : ∀ g d, d + g = n → vc_MD_most_98 iz (nI m) (nI n) (nI (cs n - n)) row sz start dof post (fun x2' z_thrown' z_often' => vc_MD_most_93 iz (nI m) (nI n) (nI (cs n - n)) row sz start dof post 0 x2' z_thrown' z_often') (g + 1) (nI (j - t)) (-1) (nI d) 0 oz := by
        intro g
        induction g with
        | zero =>
          intro d hg
          rw [vc_MD_most_98, nI_leI (by omega) (by omega)]
          unfold vc_MD_most_157
          refine ⟨fun _ => ⟨fun q => absurd q (by decide), fun _ => m_no ⟨fun g => absurd g (by decide), fun _ => h0 oz (fun s hs e => ?_)⟩⟩, fun q => absurd (by omega) q⟩
          rw [ej, nI_eq (by omega) (by omega)] at e
          omega
        | succ g ih =>
          intro d hg
          rw [vc_MD_most_98, nI_leI (by omega) (by omega), nI_clamp (by omega), hz d (by omega)]
          unfold vc_MD_most_140
          refine ⟨fun q => by omega, fun _ => ⟨(vpI (by omega)).mpr (by omega), fun _ => ?_, fun q => absurd (by decide) q⟩⟩
          rw [nI_1]
          exact ih (d + 1) (by omega)
      exact key98 n 0 (by omega)
    | succ f ih =>
      intro t j oz hf ej htj hj hoz
      rw [vc_MD_most_93]
      refine ⟨n + 1, ?_⟩
      let al : Nat → Nat := fun d => if ∃ s, s < t ∧ ky s = okey K cs sk (cs n) m d then 0 else oft K cs sk (cs n) m d
      have hal : ∀ d, al d = if ∃ s, s < t ∧ ky s = okey K cs sk (cs n) m d then 0 else oft K cs sk (cs n) m d := fun _ => rfl
      have hozal : ∀ d, d < n → oz d = nI (al d) := hoz
      have alb : ∀ d, d < n → al d < 20000 := by
        intro d hdn
        rw [hal]
        split
        · omega
        · exact oftb d hdn
      -- the t-th key is there still
      obtain ⟨dt, dt1, dt2, dt3⟩ := (k3 (ky t)).mp ⟨t, by omega, rfl⟩
      have aldt : al dt = oft K cs sk (cs n) m dt := by
        rw [hal, if_neg]
        rintro ⟨s, hs, e⟩
        have := k2 s t hs (by omega)
        omega
      have fin : ∀ b, b < n → 0 < al b → (∀ e, e < n → al e ≤ al b) → (∀ e, e < b → al e < al b) → b = dt := by
        intro b hb hb0 hmax hfst
        have nb : ¬ ∃ s, s < t ∧ ky s = okey K cs sk (cs n) m b := by
          intro g
          rw [hal, if_pos g] at hb0
          omega
        have eb : al b = oft K cs sk (cs n) m b := by rw [hal, if_neg nb]
        obtain ⟨s, hs, e⟩ := (k3 (okey K cs sk (cs n) m b)).mpr ⟨b, hb, by omega, rfl⟩
        have hst : t ≤ s := by
          by_cases g : s < t
          · exact absurd ⟨s, g, e⟩ nb
          · omega
        by_cases g : s = t
        · rw [g, dt3] at e
          unfold okey at e
          omega
        · have := k2 t s (by omega) hs
          rw [e, dt3] at this
          unfold okey at this
          have m1 := hmax dt dt1
          by_cases g2 : dt < b
          · have := hfst dt g2
            omega
          · omega
      have done : ∀ b, b < n → 0 < al b → (∀ e, e < n → al e ≤ al b) → (∀ e, e < b → al e < al b) →
          vc_MD_most_157 iz (nI m) (nI n) (nI (cs n - n)) row sz start dof post (fun x2' z_thrown' z_often' => vc_MD_most_93 iz (nI m) (nI n) (nI (cs n - n)) row sz start dof post (f + 1) x2' z_thrown' z_often') (nI (j - t)) (nI b) 1 0 0 oz := by
        intro b hb hb0 hmax hfst
        have ebd := fin b hb hb0 hmax hfst
        unfold vc_MD_most_157
        refine m_ok ⟨fun _ => ⟨fun q => ⟨(vpI (by omega)).mpr (by omega), ?_⟩, fun q => ⟨(vpI (by omega)).mpr (by omega), ?_⟩⟩, fun g => absurd rfl g⟩
        · rw [li0, nI_eq (by omega) (by omega)] at q
          rw [li1, nI_addneg (by omega), nI_clamp (by omega), li0]
          rw [show j - t - 1 = j - (t + 1) by omega]
          refine ih (t + 1) j _ (by omega) ej (by omega) hj (fun d hdn => ?_)
          by_cases e : d = b
          · rw [e, upS, if_pos ⟨t, by omega, by rw [dt3, ebd]⟩]
          · rw [upN e, hoz d hdn]
            by_cases g : ∃ s, s < t ∧ ky s = okey K cs sk (cs n) m d
            · obtain ⟨s, hs, e2⟩ := g
              rw [if_pos ⟨s, hs, e2⟩, if_pos ⟨s, by omega, e2⟩]
            · rw [if_neg g]
              by_cases g2 : ∃ s, s < t + 1 ∧ ky s = okey K cs sk (cs n) m d
              · obtain ⟨s, hs, e2⟩ := g2
                by_cases e3 : s = t
                · rw [e3, dt3] at e2
                  unfold okey at e2
                  omega
                · exact absurd ⟨s, by omega, e2⟩ g
              · rw [if_neg g2]
        · rw [li0, nI_eq (by omega) (by omega)] at q
          rw [nI_clamp (by omega), hozal b hb, ebd, aldt, li64, nI_mulI, nI_add]
          exact h1 j dt oz (by omega) ej dt1 (by rw [show j = t by omega, dt3])
      have key98 : ∀ g d, d + g = n → ((∀ e, e < d → al e = 0) → vc_MD_most_98 iz (nI m) (nI n) (nI (cs n - n)) row sz start dof post (fun x2' z_thrown' z_often' => vc_MD_most_93 iz (nI m) (nI n) (nI (cs n - n)) row sz start dof post (f + 1) x2' z_thrown' z_often') (g + 1) (nI (j - t)) (-1) (nI d) 0 oz) ∧
          (∀ b, b < d → 0 < al b → (∀ e, e < d → al e ≤ al b) → (∀ e, e < b → al e < al b) → vc_MD_most_98 iz (nI m) (nI n) (nI (cs n - n)) row sz start dof post (fun x2' z_thrown' z_often' => vc_MD_most_93 iz (nI m) (nI n) (nI (cs n - n)) row sz start dof post (f + 1) x2' z_thrown' z_often') (g + 1) (nI (j - t)) (nI b) (nI d) 0 oz) := by
        intro g
        induction g with
        | zero =>
          intro d hg
          have ed : d = n := by omega
          subst ed
          constructor
          · intro hz
            have := hz dt dt1
            omega
          · intro b hb hb0 hmax hfst
            rw [vc_MD_most_98, nI_leI (by omega) (by omega)]
            refine ⟨fun _ => ⟨fun _ => done b hb hb0 hmax hfst, fun q => absurd (nI_pos' (by omega)) q⟩, fun q => absurd (Nat.le_refl _) q⟩
        | succ g ih2 =>
          intro d hg
          have dlt : d < n := by omega
          have ald := alb d dlt
          have i1 := ih2 (d + 1) (by omega)
          constructor
          · intro hz
            rw [vc_MD_most_98, nI_leI (by omega) (by omega), nI_clamp (by omega), hozal d dlt]
            unfold vc_MD_most_137 vc_MD_most_140
            rw [li0, nI_leI (by omega) (by omega), nI_1]
            refine ⟨fun q => by omega, fun _ => ⟨(vpI (by omega)).mpr (by omega), fun q => i1.1 (fun e he => ?_), fun q => ⟨fun _ => i1.2 d (by omega) (by omega) (fun e he => ?_) (fun e he => ?_), fun q2 => absurd (by decide) q2⟩⟩⟩
            · by_cases e2 : e = d
              · rw [e2]; omega
              · exact hz e (by omega)
            · by_cases e2 : e = d
              · rw [e2]; omega
              · rw [hz e (by omega)]; omega
            · rw [hz e he]; omega
          · intro b hb hb0 hmax hfst
            have alb' := alb b (by omega)
            rw [vc_MD_most_98, nI_leI (by omega) (by omega), nI_clamp (by omega), nI_clamp (by omega), hozal d dlt, hozal b (by omega)]
            unfold vc_MD_most_137 vc_MD_most_140
            rw [li0, nI_leI (a := al d) (b := 0) (by omega) (by omega), nI_leI (a := al d) (b := al b) (by omega) (by omega), nI_1]
            refine ⟨fun q => by omega, fun _ => ⟨(vpI (by omega)).mpr (by omega), fun q => i1.2 b (by omega) hb0 (fun e he => ?_) hfst, fun q => ⟨fun q2 => absurd q2 (ls_nI (by omega)), fun q2 => ⟨(vpI (by omega)).mpr (by omega), (vpI (by omega)).mpr (by omega), fun q3 => i1.2 b (by omega) hb0 (fun e he => ?_) hfst, fun q3 => i1.2 d (by omega) (by omega) (fun e he => ?_) (fun e he => ?_)⟩⟩⟩⟩
            · by_cases e2 : e = d
              · rw [e2]; omega
              · exact hmax e (by omega)
            · by_cases e2 : e = d
              · rw [e2]; omega
              · exact hmax e (by omega)
            · by_cases e2 : e = d
              · rw [e2]; exact Nat.le_refl _
              · have := hmax e (by omega); omega
            · have := hmax e he; omega
      exact (key98 n 0 (by omega)).1 (fun e he => by omega)
  -- after the counting
  have key72 : ∀ oz, (∀ d, d < n → oz d = nI (oft K cs sk (cs n) m d)) → vc_MD_most_72 iz (nI m) (nI n) (nI (cs n - n)) row sz start dof post 0 oz := by
    intro oz hoz
    unfold vc_MD_most_72 vc_MD_most_83
    refine ⟨fun q => m_ok ⟨fun _ => ?_, fun g => absurd rfl g⟩, fun q => m_no ⟨fun g => absurd g (by decide), fun _ => h0 oz (fun j hj e => ?_)⟩⟩
    · rcases nI_cases iz with g | ⟨j, hj, e⟩
      · exact absurd q (fun q => by
          rw [Int32.lt_iff_toInt_lt] at g
          rw [Int32.le_iff_toInt_le] at q
          omega)
      · refine ⟨dn + 1, ?_⟩
        have := key93 dn 0 j oz (by omega) e (by omega) hj (fun d hdn => by
          rw [if_neg (fun ⟨s, hs, _⟩ => by omega)]; exact hoz d hdn)
        rw [Nat.sub_zero, ← e] at this
        exact this
    · have hdnb : dn ≤ 2000000 := by
        by_cases g : dn = 0
        · omega
        · have dec : ∀ i, i < dn → ky i + i ≤ ky 0 := by
            intro i
            induction i with
            | zero => intro _; omega
            | succ i ih =>
              intro hi
              have := k2 i (i + 1) (by omega) hi
              have := ih (by omega)
              omega
          obtain ⟨d, d1, d2, d3⟩ := (k3 (ky 0)).mp ⟨0, by omega, rfl⟩
          have := dec (dn - 1) (by omega)
          have := oftb d d1
          unfold okey at d3
          omega
      rw [e] at q
      exact q (nI_pos' (by omega))
  have key28 : ∀ f x oz, x + f = cs n - n → (∀ d, d < n → oz d = nI (cnt (fun y => std K (cs n) sk m (y + dm y) && decide (dm y = d)) x)) → vc_MD_most_28 iz (nI m) (nI n) (nI (cs n - n)) row sz start dof post (f + 1) (nI x) 0 oz := by
    intro f
    induction f with
    | zero =>
      intro x oz hx hoz
      rw [vc_MD_most_28, nI_leI (by omega) (by omega)]
      refine ⟨fun _ => key72 oz (fun d hdn => ?_), fun q => absurd (by omega) q⟩
      rw [hoz d hdn, show x = cs n - n by omega, oft_cnt hd h.2.1 hsk hm hdn]
    | succ f ih =>
      intro x oz hx hoz
      have a := dm_at hd h.2.1 (show x < cs n - n by omega)
      rw [vc_MD_most_28, nI_leI (by omega) (by omega), li0, nI_leI (by omega) (by omega)]
      refine ⟨fun q => by omega, fun _ => ⟨fun q => key72 oz (fun d hdn => ?_), fun q => ?_⟩⟩
      · have hz : ∀ p, std K (cs n) sk m p = false := by
          intro p
          unfold std
          simp only [decide_eq_false_iff_not]
          omega
        rw [hoz d hdn]
        unfold oft
        rw [cnt_none (fun j hj => by simp [hz]), cnt_none (n := cs (d + 1)) (fun j hj => hz j)]
        rw [Nat.zero_sub]
      · unfold vc_MD_most_66
        rw [nI_1]
        refine m_stands h hsk hsz (by omega) hm (by omega) (fun e => ⟨fun g => absurd g (by decide), fun _ => ?_⟩) (fun e => ⟨fun _ => ?_, fun g => absurd rfl g⟩)
        · have cb := cnt_le (fun y => std K (cs n) sk m (y + dm y) && decide (dm y = dm x)) x
          rw [nI_clamp (by omega), dofz x (by omega), nI_clamp (by omega), hoz (dm x) (by omega), nI_1]
          refine ⟨(vpI (by omega)).mpr (by omega), (vpI (by omega)).mpr (by omega), (vpI (by omega)).mpr (by omega), ih (x + 1) _ (by omega) (fun d hdn => ?_)⟩
          simp only [cnt, e, Bool.true_and, decide_eq_true_eq]
          by_cases e2 : d = dm x
          · rw [e2, upS, if_pos rfl]
          · rw [upN e2, if_neg (Ne.symm e2), hoz d hdn, Nat.add_zero]
        · refine ih (x + 1) oz (by omega) (fun d hdn => ?_)
          simp only [cnt, e, Bool.false_and]
          rw [hoz d hdn]; rfl
  have key7 : ∀ f x oz, x + f = 64 → (∀ d, d < x → oz d = nI 0) → vc_MD_most_7 iz (nI m) (nI n) (nI (cs n - n)) row sz start dof post (f + 1) (nI x) 0 oz := by
    intro f
    induction f with
    | zero =>
      intro x oz hx hoz
      rw [vc_MD_most_7, li64, nI_leI (by omega) (by omega)]
      exact ⟨fun _ => ⟨cs n - n + 1, key28 (cs n - n) 0 oz (by omega) (fun d hdn => hoz d (by omega))⟩, fun q => absurd (by omega) q⟩
    | succ f ih =>
      intro x oz hx hoz
      rw [vc_MD_most_7, li64, nI_leI (by omega) (by omega), nI_clamp (by omega), nI_1]
      refine ⟨fun q => by omega, fun _ => ⟨(vpI (by omega)).mpr (by omega), ih (x + 1) _ (by omega) (fun d hdn => ?_)⟩⟩
      by_cases e : d = x
      · rw [e, upS]; rfl
      · rw [upN e]; exact hoz d (by omega)
  exact ⟨65, key7 64 0 oz (by omega) (fun d hdn => by omega)⟩
