/-! cutting into phrases -/
noncomputable def phE (K cs : Nat → Nat) (n d p : Nat) : Nat := eb K (cs n) p (cs d) (p - cs d)
noncomputable def phP (K cs : Nat → Nat) (n d p : Nat) : Nat := ep K (cs n) p (cs d) (p - cs d)
noncomputable def ph (K cs : Nat → Nat) (n d : Nat) : Nat → Nat
  | 0 => cs d
  | k + 1 => ph K cs n d k + max 1 (phE K cs n d (ph K cs n d k))
def PhOk (K cs : Nat → Nat) (n d a : Nat) : Prop := 1 ≤ a ∧ ph K cs n d a = cs (d + 1) - 1 ∧ ∀ k, k < a → ph K cs n d k < cs (d + 1) - 1
noncomputable def ans (K cs : Nat → Nat) (n d k : Nat) : Nat := if phE K cs n d (ph K cs n d k) = 0 then 131071 else phE K cs n d (ph K cs n d k) * 65536 + (phP K cs n d (ph K cs n d k) - 1 - cs d)
theorem ph_ge (K cs : Nat → Nat) (n d : Nat) : ∀ k, cs d + k ≤ ph K cs n d k := by
  intro k
  induction k with
  | zero => exact Nat.le_refl _
  | succ k ih => show _ ≤ ph K cs n d k + max 1 _; omega
theorem PhOk_uniq {K cs : Nat → Nat} {n d a b : Nat} (ha : PhOk K cs n d a) (hb : PhOk K cs n d b) : a = b := by
  by_cases q : a < b
  · have := hb.2.2 a q
    have := ha.2.1
    omega
  · by_cases q2 : b < a
    · have := ha.2.2 b q2
      have := hb.2.1
      omega
    · omega
theorem phE_b {K ow cs : Nat → Nat} {n d p : Nat} (hd : DocOk K ow cs n) (hdn : d < n) (h1 : cs d ≤ p) (h2 : p < cs (d + 1) - 1) :
    phE K cs n d p ≤ lenf ow cs p ∧ lenf ow cs p = cs (d + 1) - 1 - p ∧ (phE K cs n d p = 0 → phP K cs n d p = 0) ∧ (0 < phE K cs n d p → cs d < phP K cs n d p ∧ phP K cs n d p ≤ p) := by
  have c3 := doc_mono hd (show d + 1 ≤ n by omega) (Nat.le_refl n)
  have o := doc_own hd hdn h1 (show p < cs (d + 1) by omega)
  have el : lenf ow cs p = cs (d + 1) - 1 - p := by unfold lenf; rw [o]
  have hb := eb_best K (cs n) p (cs d) (p - cs d)
  rw [show cs d + (p - cs d) = p by omega] at hb
  refine ⟨?_, el, fun e => ?_, fun e => ?_⟩
  · rcases hb with ⟨a, b, c⟩ | ⟨a, c, d1, d2, d3, d4, d5, d6⟩
    · unfold phE; omega
    · have := (lcp_len hd (show c < cs n by omega) (show p < cs n by omega) (by omega)).2
      unfold phE; omega
  · rcases hb with ⟨a, b, c⟩ | ⟨a, c, d1, d2, d3, d4, d5, d6⟩
    · exact b
    · unfold phE at e; omega
  · rcases hb with ⟨a, b, c⟩ | ⟨a, c, d1, d2, d3, d4, d5, d6⟩
    · unfold phE at e; omega
    · unfold phP; omega
theorem s_findEarlier {so rz ab : Nat → Int32} {K ow cs sa rk : Nat → Nat} {n d p : Nat} (hd : DocOk K ow cs n) (hs : SAok K (cs n) sa rk) (hso : ∀ k, k < cs n → so k = nI (sa k)) (hrz : ∀ p, p < cs n → rz p = nI (rk p)) (hab : ∀ r, r < cs n → ab r = nI (LL K (cs n) sa r))
    (hdn : d < n) (h1 : cs d ≤ p) (h2 : p < cs (d + 1) - 1) {a b : Int32} {post : Int32 → Int32 → Prop} (hp : post (nI (phE K cs n d p)) (nI (phP K cs n d p) - nI 1)) :
    vc_PB_findEarlier (nI (cs d)) (nI p) (nI n) (nI (cs n)) so rz ab post a b := by
  have c3 := doc_mono hd (show d + 1 ≤ n by omega) (Nat.le_refl n)
  have plt : p < cs n := by omega
  have nm : ∀ c, cs d ≤ c → c ≤ p → n ≤ rk c := by
    intro c c1 c2
    have kk := (hd.2.2.1 d c hdn c1 (by omega)).2.2 (by omega)
    have r := hs.2.1 c (by omega)
    have mk := SA_mark_iff hd hs r.1
    rw [r.2] at mk
    omega
  unfold vc_PB_findEarlier
  refine s_walkDown hd hs hso hrz hab plt h1 (by omega) (nm p h1 (Nat.le_refl _)) (fun c c1 c2 => nm c c1 (by omega)) (fun el e hb hel => ?_)
  refine s_walkUp hd hs hso hrz hab plt h1 (nm p h1 (Nat.le_refl _)) hb hel (fun el' e' hb' _ => ?_)
  have hb2 := eb_best K (cs n) p (cs d) (p - cs d)
  rw [show cs d + (p - cs d) = p by omega] at hb2
  have u := best_uniq hb' hb2 (fun c c1 c2 e => by
    have a1 := (hs.2.1 c (by omega)).2
    rw [e, (hs.2.1 p plt).2] at a1
    omega) (fun _ _ _ => trivial)
  rw [u.1, u.2]
  exact hp
def PhC (answers : Nat → Int64) (amounts : Nat → Int32) (K cs : Nat → Nat) (n : Nat) : Prop :=
  ∀ d, d < n → amounts d = nI 0 ∨ ∃ a, PhOk K cs n d a ∧ amounts d = nI a ∧ ∀ k, k < a → answers (cs d + k) = lN (ans K cs n d k)
theorem l131071 : (131071 : Int64) = lN 131071 := rfl
theorem l65536 : (65536 : Int64) = lN 65536 := rfl
theorem s_amountIn {starts text owners so rz ab : Nat → Int32} {K ow cs sa rk : Nat → Nat} {n d : Nat} (h : LibC text owners starts K ow cs n) (hs : SAok K (cs n) sa rk) (hso : ∀ k, k < cs n → so k = nI (sa k)) (hrz : ∀ p, p < cs n → rz p = nI (rk p)) (hab : ∀ r, r < cs n → ab r = nI (LL K (cs n) sa r))
    (hdn : d < n) {e0 e1 : Int32} {az : Nat → Int64} {mz : Nat → Int32} (hpc : PhC az mz K cs n) {post : Int32 → Int32 → Int32 → (Nat → Int64) → (Nat → Int32) → Prop}
    (hp : ∀ a e0' e1' az' mz', PhOk K cs n d a → PhC az' mz' K cs n → (∀ k, k < a → az' (cs d + k) = lN (ans K cs n d k)) → post (nI a) e0' e1' az' mz') :
    vc_PB_amountIn (nI d) starts (nI n) (nI (cs n)) so rz ab post e0 e1 az mz := by
  have hd := h.1
  have hN := doc_N hd
  have h64 := hd.2.2.2.1
  have hst := h.2.2.2
  have c2 := hd.2.1 d hdn
  have c3 := doc_mono hd (show d + 1 ≤ n by omega) (Nat.le_refl n)
  have aB : ∀ a, PhOk K cs n d a → a < 16448 := by
    intro a ha
    have := ph_ge K cs n d a
    have := ha.2.1
    omega
  unfold vc_PB_amountIn vc_PB_amountIn_14
  rw [nI_clamp (by omega)]
  refine ⟨(vpI (by omega)).mpr (by omega), fun q => ⟨(vpI (by omega)).mpr (by omega), ?_⟩, fun q => ?_⟩
  · rcases hpc d hdn with e | ⟨a, a1, a2, a3⟩
    · rw [e] at q; exact absurd rfl q
    · rw [a2]
      exact hp a _ _ _ _ a1 hpc a3
  · unfold vc_PB_cutDocument vc_LB_endOf
    rw [nI_1, nI_clamp (by omega), nI_clamp (by omega), hst _ (by omega), hst _ (by omega), li1, nI_subI (by omega)]
    refine ⟨(vpI (by omega)).mpr (by omega), (vpI (by omega)).mpr (by omega), cs (d + 1) - 1 - cs d + 1, ?_⟩
    have key : ∀ f k e0 e1 az', cs (d + 1) - 1 ≤ ph K cs n d k + f → ph K cs n d k ≤ cs (d + 1) - 1 → (∀ j, j < k → ph K cs n d j < cs (d + 1) - 1) → (∀ j, j < k → az' (cs d + j) = lN (ans K cs n d j)) → (∀ x, ¬ (cs d ≤ x ∧ x < cs (d + 1) - 1) → az' x = az x) →
        vc_PB_cutDocument_25 (nI d) starts (nI n) (nI (cs n)) so rz ab (fun u2_0 u2_1 u2_2 u2_3 => vp_in (nI d) 64 ∧ post (u2_3 d) u2_0 u2_1 u2_2 u2_3) (f + 1) (nI (cs d)) (nI (cs (d + 1) - 1)) (nI k) (nI (ph K cs n d k)) e0 e1 az' mz := by
      intro f
      have out : ∀ k e0 e1 az', ph K cs n d k = cs (d + 1) - 1 → (∀ j, j < k → ph K cs n d j < cs (d + 1) - 1) → (∀ j, j < k → az' (cs d + j) = lN (ans K cs n d j)) → (∀ x, ¬ (cs d ≤ x ∧ x < cs (d + 1) - 1) → az' x = az x) →
          vp_in (nI d) 64 ∧ (vp_in (nI d) 64 ∧ post ((upd mz (nI d).toNatClampNeg (nI k)) d) e0 e1 az' (upd mz (nI d).toNatClampNeg (nI k))) := by
        intro k e0 e1 az' h1 h2 h3 h4
        rw [nI_clamp (by omega), upS]
        have ok : PhOk K cs n d k := by
          refine ⟨?_, h1, h2⟩
          by_cases g : k = 0
          · have h1' := h1
            rw [g] at h1'
            have : ph K cs n d 0 = cs d := rfl
            omega
          · omega
        refine ⟨(vpI (by omega)).mpr (by omega), (vpI (by omega)).mpr (by omega), hp k _ _ _ _ ok (fun d' hd' => ?_) h3⟩
        by_cases e : d' = d
        · rw [e, upS]
          exact Or.inr ⟨k, ok, rfl, h3⟩
        · rw [upN e]
          rcases hpc d' hd' with g | ⟨a, a1, a2, a3⟩
          · exact Or.inl g
          · refine Or.inr ⟨a, a1, a2, fun j hj => ?_⟩
            rw [h4, a3 j hj]
            have g1 := ph_ge K cs n d' j
            have g2 := a1.2.2 j hj
            rintro ⟨x1, x2⟩
            by_cases c : d' < d
            · have := doc_mono hd (show d' + 1 ≤ d by omega) (by omega)
              omega
            · have := doc_mono hd (show d + 1 ≤ d' by omega) (by omega)
              omega
      induction f with
      | zero =>
        intro k e0 e1 az' h1 h2 h3 h4 h5
        rw [vc_PB_cutDocument_25, nI_leI (by omega) (by omega)]
        exact ⟨fun _ => out k e0 e1 az' (by omega) h3 h4 h5, fun c => absurd (by omega) c⟩
      | succ f ih =>
        intro k e0 e1 az' h1 h2 h3 h4 h5
        rw [vc_PB_cutDocument_25, nI_leI (by omega) (by omega)]
        refine ⟨fun c => out k e0 e1 az' (by omega) h3 h4 h5, fun c => ?_⟩
        have hk := ph_ge K cs n d k
        have pb := phE_b hd hdn (show cs d ≤ ph K cs n d k by omega) (by omega)
        refine s_findEarlier hd hs hso hrz hab hdn (by omega) (by omega) ?_
        have emax : (if nI (phE K cs n d (ph K cs n d k)) < 1 then 1 else nI (phE K cs n d (ph K cs n d k))) = nI (max 1 (phE K cs n d (ph K cs n d k))) := by
          have := nI_maxI (a := phE K cs n d (ph K cs n d k)) (b := 1) (by omega) (by omega)
          rw [Nat.max_comm] at this
          exact this
        have cont : vp_in (nI (cs d) + nI k) 16448 ∧ vc_PB_cutDocument_25 (nI d) starts (nI n) (nI (cs n)) so rz ab (fun u2_0 u2_1 u2_2 u2_3 => vp_in (nI d) 64 ∧ post (u2_3 d) u2_0 u2_1 u2_2 u2_3) (f + 1) (nI (cs d)) (nI (cs (d + 1) - 1)) (nI k + 1) (nI (ph K cs n d k) + (if nI (phE K cs n d (ph K cs n d k)) < 1 then 1 else nI (phE K cs n d (ph K cs n d k)))) (nI (phE K cs n d (ph K cs n d k))) (nI (phP K cs n d (ph K cs n d k)) - nI 1) (vp_updL az' (nI (cs d) + nI k).toNatClampNeg (lN (ans K cs n d k))) mz := by
          rw [emax, nI_add, nI_add, nI_1, nI_clamp (n := cs d + k) (by omega)]
          refine ⟨(vpI (by omega)).mpr (by omega), ?_⟩
          refine ih (k + 1) _ _ _ ?_ ?_ (fun j hj => ?_) (fun j hj => ?_) (fun x hx => ?_)
          · show _ ≤ ph K cs n d k + max 1 _ + f
            omega
          · show ph K cs n d k + max 1 _ ≤ _
            omega
          · by_cases g : j = k
            · rw [g]; omega
            · exact h3 j (by omega)
          · by_cases g : j = k
            · rw [g, pk_uLs]
            · rw [pk_uLn (by omega)]; exact h4 j (by omega)
          · rw [pk_uLn (by omega)]; exact h5 x hx
        unfold vc_PB_answerFor
        refine ⟨fun g => ?_, fun g => ?_⟩
        · have gpos : 0 < phE K cs n d (ph K cs n d k) := by
            by_cases c2 : phE K cs n d (ph K cs n d k) = 0
            · rw [c2] at g; exact absurd rfl g
            · omega
          have pp := pb.2.2.2 gpos
          have e1 : (nI (phE K cs n d (ph K cs n d k))).toInt64 * 65536 + ((nI (phP K cs n d (ph K cs n d k)) - nI 1) - nI (cs d)).toInt64 = lN (ans K cs n d k) := by
            rw [nI_subI (by omega), nI_subI (by omega), nI_l (by omega), nI_l (by omega), l65536, lN_mul, lN_add]
            unfold ans
            rw [if_neg (by omega)]
          rw [e1]
          exact cont
        · rw [li0, nI_eq (by omega) (by omega)] at g
          have e1 : (131071 : Int64) = lN (ans K cs n d k) := by
            unfold ans
            rw [if_pos g]
            rfl
          rw [e1]
          exact cont
    exact key (cs (d + 1) - 1 - cs d) 0 e0 e1 az (by show _ ≤ cs d + _; omega) (by show cs d ≤ _; omega) (fun j hj => by omega) (fun j hj => by omega) (fun _ _ => rfl)
/-! the reference's phrases -/
theorem m_phraseAt {row start dof : Nat → Int32} {K ow cs dm : Nat → Nat} {n d p : Nat} (h : LibM row start dof K ow cs dm n) (hdn : d < n) (h1 : cs d ≤ p) (h2 : p < cs (d + 1) - 1) {lz : Int32} {post : Int32 → Int32 → Prop}
    (hp : post (nI (max 1 (phE K cs n d p))) (if phE K cs n d p = 0 then -1 else nI (phP K cs n d p - 1 - d))) : vc_MD_phraseAt (nI d) (nI (p - d)) row start dof post lz := by
  have hd := h.1
  have hN := doc_N hd
  have hS := doc_S hd
  have h64 := hd.2.2.2.1
  have c3 := doc_mono hd (show d + 1 ≤ n by omega) (Nat.le_refl n)
  have c4 := doc_mono hd (show 0 ≤ d by omega) (show d ≤ n by omega)
  have hin : ∀ k, cs d + k < cs (d + 1) - 1 → cs d - d + k < cs n - n ∧ dm (cs d - d + k) = d := by
    intro k hk
    have o := doc_own hd hdn (show cs d ≤ cs d + k by omega) (by omega)
    have kk := (hd.2.2.1 d (cs d + k) hdn (by omega) (by omega)).2.2 (by omega)
    have e := dm_of hd h.2.1 (show cs d + k < cs n by omega) kk.1
    rw [o] at e
    rw [show cs d - d + k = cs d + k - d by omega]
    exact ⟨e.1, e.2.1⟩
  have hpx := hin (p - cs d) (by omega)
  have ebnd : ∀ k, k ≤ p - cs d → eb K (cs n) p (cs d) k < 20000 ∧ (eb K (cs n) p (cs d) k = 0 → ep K (cs n) p (cs d) k = 0) ∧ (0 < eb K (cs n) p (cs d) k → cs d < ep K (cs n) p (cs d) k ∧ ep K (cs n) p (cs d) k ≤ cs d + k) := by
    intro k hk
    have hb := eb_best K (cs n) p (cs d) k
    rcases hb with ⟨a, b, c⟩ | ⟨a, c, d1, d2, d3, d4, d5, d6⟩
    · exact ⟨by omega, fun _ => b, fun e => by omega⟩
    · have := lcp_at hd (show c < cs n by omega) (show p < cs n by omega) (by omega)
      exact ⟨by omega, fun e => by omega, fun _ => by omega⟩
  have key : ∀ f k lz, k + f = p - cs d → (lz = if eb K (cs n) p (cs d) k = 0 then -1 else nI (ep K (cs n) p (cs d) k - 1 - d)) → vc_MD_phraseAt_15 (nI d) (nI (p - d)) row start dof post (f + 1) (nI (eb K (cs n) p (cs d) k)) (nI (cs d - d + k)) lz := by
    intro f
    induction f with
    | zero =>
      intro k lz hk hlz
      have bb := ebnd k (by omega)
      rw [vc_MD_phraseAt_15, nI_leI (by omega) (by omega)]
      refine ⟨fun _ => ?_, fun c => absurd (by omega) c⟩
      have em : (if 1 < nI (eb K (cs n) p (cs d) k) then nI (eb K (cs n) p (cs d) k) else 1) = nI (max 1 (eb K (cs n) p (cs d) k)) := nI_maxI (a := 1) (b := eb K (cs n) p (cs d) k) (by omega) (by omega)
      rw [em, hlz]
      unfold phE phP at hp
      rw [← show k = p - cs d by omega] at hp
      exact hp
    | succ f ih =>
      intro k lz hk hlz
      have bb := ebnd k (by omega)
      have hq := hin k (by omega)
      have hne : cs d - d + k ≠ p - d := by omega
      rw [vc_MD_phraseAt_15, nI_leI (by omega) (by omega)]
      refine ⟨fun c => by omega, fun _ => m_alike h hq.1 (show p - d < cs n - n by have := hpx.1; rw [show cs d - d + (p - cs d) = p - d by omega] at this; exact this) ?_⟩
      have ecp : p - d + dm (p - d) = p := by
        have := hpx.2
        rw [show cs d - d + (p - cs d) = p - d by omega] at this
        rw [this]; omega
      rw [if_neg hne, hq.2, ecp, show cs d - d + k + d = cs d + k by omega]
      have lb := lcp_at hd (show cs d + k < cs n by omega) (show p < cs n by omega) (by omega)
      unfold vc_MD_phraseAt_53
      rw [li0, nI_eq (by omega) (by omega), nI_leI (by omega) (by omega), nI_1]
      have keep : (lcp K (cs n) (cs d + k) p = 0 ∨ lcp K (cs n) (cs d + k) p < eb K (cs n) p (cs d) k) → vc_MD_phraseAt_15 (nI d) (nI (p - d)) row start dof post (f + 1) (nI (eb K (cs n) p (cs d) k)) (nI (cs d - d + k + 1)) lz := by
        intro g
        have e1 : eb K (cs n) p (cs d) (k + 1) = eb K (cs n) p (cs d) k := by simp only [eb]; rw [if_pos g]
        have e2 : ep K (cs n) p (cs d) (k + 1) = ep K (cs n) p (cs d) k := by simp only [ep]; rw [if_pos g]
        have := ih (k + 1) lz (by omega) (by rw [e1, e2]; exact hlz)
        rw [e1] at this
        exact this
      refine ⟨fun g => keep (Or.inl g), fun g => ⟨fun g2 => ?_, fun g2 => keep (Or.inr (by omega))⟩⟩
      have gn : ¬ (lcp K (cs n) (cs d + k) p = 0 ∨ lcp K (cs n) (cs d + k) p < eb K (cs n) p (cs d) k) := by omega
      have e1 : eb K (cs n) p (cs d) (k + 1) = lcp K (cs n) (cs d + k) p := by simp only [eb]; rw [if_neg gn]
      have e2 : ep K (cs n) p (cs d) (k + 1) = cs d + k + 1 := by simp only [ep]; rw [if_neg gn]
      have := ih (k + 1) (nI (cs d - d + k)) (by omega) (by rw [e1, e2, if_neg g, show cs d + k + 1 - 1 - d = cs d - d + k by omega])
      rw [e1] at this
      exact this
  unfold vc_MD_phraseAt
  rw [nI_clamp (by omega), h.2.2.2.2 d (by omega)]
  exact ⟨(vpI (by omega)).mpr (by omega), p - cs d + 1, key (p - cs d) 0 (-1) (by omega) rfl⟩
theorem m_phrases {row start dof : Nat → Int32} {K ow cs dm : Nat → Nat} {n : Nat} (h : LibM row start dof K ow cs dm n) {dz th lz : Int32} {post : Int32 → Int32 → Int32 → Prop}
    (h0 : (∀ d : Nat, d < n → dz ≠ nI d) → post 0 1 lz)
    (hok : ∀ d : Nat, d < n → dz = nI d → ∃ a, PhOk K cs n d a ∧ ∀ lz', post (nI a) 0 lz') : vc_MD_phrases dz (nI n) row start dof post th lz := by
  have hd := h.1
  have hN := doc_N hd
  have hS := doc_S hd
  have h64 := hd.2.2.2.1
  unfold vc_MD_phrases
  refine m_noDoc h64 (fun g => ⟨fun e => absurd e (by decide), fun _ => h0 g⟩) (fun d hdn e => ⟨fun _ => ?_, fun g => absurd rfl g⟩)
  obtain ⟨a, ha, hpa⟩ := hok d hdn e
  subst e
  have c2 := hd.2.1 d hdn
  have c3 := doc_mono hd (show d + 1 ≤ n by omega) (Nat.le_refl n)
  have c4 := doc_mono hd (show 0 ≤ d by omega) (show d ≤ n by omega)
  have hst := h.2.2.2.2
  rw [nI_clamp (by omega), hst d (by omega)]
  refine ⟨(vpI (by omega)).mpr (by omega), a + 1, ?_⟩
  have key : ∀ f k lz, k + f = a → vc_MD_phrases_19 (nI d) (nI n) row start dof post (f + 1) (nI k) (nI (ph K cs n d k - d)) 0 lz := by
    intro f
    induction f with
    | zero =>
      intro k lz hk
      have e1 := ha.2.1
      rw [vc_MD_phrases_19, nI_1, nI_clamp (by omega), hst _ (by omega), show k = a by omega, nI_leI (by omega) (by omega)]
      exact ⟨(vpI (by omega)).mpr (by omega), fun _ => hpa lz, fun c => absurd (by omega) c⟩
    | succ f ih =>
      intro k lz hk
      have b1 := ha.2.2 k (by omega)
      have b2 := ph_ge K cs n d k
      have pb := phE_b hd hdn (show cs d ≤ ph K cs n d k by omega) b1
      rw [vc_MD_phrases_19, nI_1, nI_clamp (by omega), hst _ (by omega), nI_leI (by omega) (by omega)]
      refine ⟨(vpI (by omega)).mpr (by omega), fun c => by omega, fun _ => m_phraseAt h hdn (by omega) b1 ?_⟩
      rw [nI_add, nI_1]
      have := ih (k + 1) (if phE K cs n d (ph K cs n d k) = 0 then -1 else nI (phP K cs n d (ph K cs n d k) - 1 - d)) (by omega)
      rw [show ph K cs n d (k + 1) - d = ph K cs n d k - d + max 1 (phE K cs n d (ph K cs n d k)) by show ph K cs n d k + max 1 _ - d = _; omega] at this
      exact this
  exact key a 0 lz (by omega)
theorem m_phrase {row start dof : Nat → Int32} {K ow cs dm : Nat → Nat} {n : Nat} (h : LibM row start dof K ow cs dm n) {dz iz th lz : Int32} {post : Int64 → Int32 → Int32 → Prop}
    (h0 : ∀ lz', (∀ d : Nat, d < n → dz ≠ nI d) → post 0 1 lz')
    (hok : ∀ d : Nat, d < n → dz = nI d → ∃ a, PhOk K cs n d a ∧ (∀ i lz', i < a → iz = nI i → post (lN (ans K cs n d i)) 0 lz') ∧ (∀ lz', (∀ i : Nat, i < a → iz ≠ nI i) → post 0 1 lz')) : vc_MD_phrase dz iz (nI n) row start dof post th lz := by
  have hd := h.1
  have hN := doc_N hd
  have hS := doc_S hd
  have h64 := hd.2.2.2.1
  unfold vc_MD_phrase
  refine m_noDoc h64 (fun g => ⟨fun _ => h0 lz g, fun e => absurd e (by decide)⟩) (fun d hdn e => ⟨fun g => absurd rfl g, fun _ => ?_⟩)
  obtain ⟨a, ha, hp1, hp2⟩ := hok d hdn e
  subst e
  have c2 := hd.2.1 d hdn
  have c3 := doc_mono hd (show d + 1 ≤ n by omega) (Nat.le_refl n)
  have c4 := doc_mono hd (show 0 ≤ d by omega) (show d ≤ n by omega)
  have hst := h.2.2.2.2
  have aB : a < 16448 := by
    have := ph_ge K cs n d a
    have := ha.2.1
    omega
  unfold vc_MD_phrase_19
  refine ⟨fun q => m_ok ⟨fun _ => ?_, fun g => absurd rfl g⟩, fun q => m_no ⟨fun e => absurd e (by decide), fun _ => hp2 lz (fun i hi e => ?_)⟩⟩
  · rw [nI_clamp (by omega), hst d (by omega)]
    refine ⟨(vpI (by omega)).mpr (by omega), a + 1, ?_⟩
    have key : ∀ f k lz, k + f = a → (∀ i : Nat, i < k → iz ≠ nI i) → vc_MD_phrase_37 (nI d) iz (nI n) row start dof post (f + 1) (nI k) (nI (ph K cs n d k - d)) 0 lz := by
      intro f
      induction f with
      | zero =>
        intro k lz hk hno
        have e1 := ha.2.1
        rw [vc_MD_phrase_37, nI_1, nI_clamp (n := d + 1) (by omega), hst _ (by omega), show ph K cs n d k = cs (d + 1) - 1 by rw [show k = a by omega]; exact e1, nI_leI (by omega) (by omega)]
        exact ⟨(vpI (by omega)).mpr (by omega), fun _ => m_no (hp2 lz (fun i hi => hno i (by omega))), fun c => absurd (by omega) c⟩
      | succ f ih =>
        intro k lz hk hno
        have b1 := ha.2.2 k (by omega)
        have b2 := ph_ge K cs n d k
        have pb := phE_b hd hdn (show cs d ≤ ph K cs n d k by omega) b1
        rw [vc_MD_phrase_37, nI_1, nI_clamp (n := d + 1) (by omega), hst _ (by omega), nI_leI (by omega) (by omega)]
        refine ⟨(vpI (by omega)).mpr (by omega), fun c => by omega, fun _ => m_phraseAt h hdn (by omega) b1 ⟨fun g => ?_, fun g => ?_⟩⟩
        · rw [nI_add, nI_1]
          have := ih (k + 1) (if phE K cs n d (ph K cs n d k) = 0 then -1 else nI (phP K cs n d (ph K cs n d k) - 1 - d)) (by omega) (fun i hi => by
            by_cases e : i = k
            · rw [e]; exact fun e2 => g e2.symm
            · exact hno i (by omega))
          rw [show ph K cs n d (k + 1) - d = ph K cs n d k - d + max 1 (phE K cs n d (ph K cs n d k)) by show ph K cs n d k + max 1 _ - d = _; omega] at this
          exact this
        · have hp1' := hp1 k (if phE K cs n d (ph K cs n d k) = 0 then -1 else nI (phP K cs n d (ph K cs n d k) - 1 - d)) (by omega) g.symm
          unfold ans at hp1'
          by_cases z : phE K cs n d (ph K cs n d k) = 0
          · rw [if_pos z, if_pos z] at hp1'
            rw [if_pos z, z]
            refine ⟨fun c => absurd c (by decide), fun _ => ?_⟩
            have e1 : (65536 : Int64) * (nI (max 1 0)).toInt64 + ((65535 : Int32).toInt64) = lN 131071 := by decide
            rw [e1]
            exact hp1'
          · have pp := pb.2.2.2 (by omega)
            rw [if_neg z, if_neg z] at hp1'
            rw [if_neg z, nI_clamp (by omega), hst d (by omega)]
            refine ⟨fun _ => ⟨(vpI (by omega)).mpr (by omega), ?_⟩, fun c => absurd (nI_pos' (by omega)) c⟩
            rw [nI_subI (by omega), nI_l (by omega), nI_l (by omega), l65536, lN_mul, lN_add,
              show 65536 * max 1 (phE K cs n d (ph K cs n d k)) + (phP K cs n d (ph K cs n d k) - 1 - d - (cs d - d)) = phE K cs n d (ph K cs n d k) * 65536 + (phP K cs n d (ph K cs n d k) - 1 - cs d) by omega]
            exact hp1'
    exact key a 0 lz (by omega) (fun i hi => by omega)
  · rw [e] at q
    exact q (nI_pos' (by omega))
