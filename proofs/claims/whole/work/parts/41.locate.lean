/-! seeking in the order -/
noncomputable def lcF (u v : Nat → Nat) : Nat := Classical.choose (ex_eq (lc u v 16448))
noncomputable def codF (u : Nat → Nat) : Nat := Classical.choose (ex_eq (cod u 16448))
theorem lcF_def (u v : Nat → Nat) : lcF u v = lc u v 16448 := Classical.choose_spec (ex_eq (lc u v 16448))
theorem codF_def (u : Nat → Nat) : codF u = cod u 16448 := Classical.choose_spec (ex_eq (cod u 16448))
theorem lcp_lcF (K : Nat → Nat) (N p q : Nat) : lcp K N p q = lcF (sy K N p) (sy K N q) := by rw [lcp_def, lcF_def]
theorem XX_codF (K : Nat → Nat) (N p : Nat) : XX K N p = codF (sy K N p) := by rw [XX_def, codF_def]
theorem lcF_mid {u v w : Nat → Nat} (hu : ∀ i, u i < 400) (hv : ∀ i, v i < 400) (hw : ∀ i, w i < 400) (h1 : codF u ≤ codF v) (h2 : codF v ≤ codF w) : lcF u w = min (lcF u v) (lcF v w) := by
  rw [codF_def, codF_def] at h1 h2
  rw [lcF_def, lcF_def, lcF_def]
  exact lc_mid hu hv hw h1 h2
theorem lcF_tri (u v w : Nat → Nat) : min (lcF u v) (lcF v w) ≤ lcF u w := by
  rw [lcF_def, lcF_def, lcF_def]; exact lc_tri
theorem lcF_comm (u v : Nat → Nat) : lcF u v = lcF v u := by rw [lcF_def, lcF_def, lc_comm]
theorem lcF_is {u v : Nat → Nat} {l : Nat} (h : l < 16448) (he : ∀ i, i < l → u i = v i) (hd : u l ≠ v l) : lcF u v = l := by rw [lcF_def]; exact lc_is h he hd
theorem lcF_same {u v : Nat → Nat} {i : Nat} (h : i < lcF u v) : u i = v i := by rw [lcF_def] at h; exact lc_same i h
theorem lcF_diff {u v : Nat → Nat} (h : lcF u v < 16448) : u (lcF u v) ≠ v (lcF u v) := by
  rw [lcF_def] at h ⊢; exact lc_diff h
theorem codF_lt {u v : Nat → Nat} (hu : ∀ i, u i < 400) (hv : ∀ i, v i < 400) (h : lcF u v < 16448) : codF u < codF v ↔ u (lcF u v) < v (lcF u v) := by
  have hd := lcF_diff h
  rw [codF_def, codF_def, cod_lt hu hv]
  constructor
  · rintro ⟨l, h1, h2, h3⟩
    rw [lcF_is h1 h2 (by omega)]; exact h3
  · intro g
    exact ⟨lcF u v, h, fun i hi => lcF_same hi, g⟩
/-- what is sought, from fr on: m bytes sk -/
def pt (sk : Nat → Nat) (m fr : Nat) : Nat → Nat := fun i => if fr + i < m then sk (fr + i) + 1 else 0
theorem pt_lt {sk : Nat → Nat} {m fr : Nat} (h : ∀ i, i < m → 64 ≤ sk i ∧ sk i < 320) (i : Nat) : pt sk m fr i < 400 := by
  unfold pt
  split
  · rename_i q
    have := h _ q
    omega
  · omega
/-- how long the sought stands at p -/
noncomputable def lw (K : Nat → Nat) (N : Nat) (sk : Nat → Nat) (m fr p : Nat) : Nat := lcF (pt sk m fr) (sy K N p)
theorem lw_ex {K ow cs sk : Nat → Nat} {n m fr p : Nat} (hd : DocOk K ow cs n) (hsk : ∀ i, i < m → 64 ≤ sk i ∧ sk i < 320) (hm : m ≤ 200) (hfr : fr ≤ m) (hp : p < cs n) :
    lw K (cs n) sk m fr p ≤ m - fr ∧ lw K (cs n) sk m fr p ≤ lenf ow cs p ∧ (∀ i, i < lw K (cs n) sk m fr p → sk (fr + i) = K (p + i)) ∧
    (lw K (cs n) sk m fr p < m - fr → sk (fr + lw K (cs n) sk m fr p) ≠ K (p + lw K (cs n) sk m fr p)) ∧
    (XX K (cs n) p < codF (pt sk m fr) ↔ lw K (cs n) sk m fr p < m - fr ∧ K (p + lw K (cs n) sk m fr p) < sk (fr + lw K (cs n) sk m fr p)) ∧
    XX K (cs n) p ≠ codF (pt sk m fr) := by
  have hl := doc_len hd hp
  have hN := doc_N hd
  have h64 := hd.2.2.2.1
  have hw := (doc_at hd hp).1
  -- they differ at the pattern's end and at the mark
  have d1 : pt sk m fr (m - fr) = 0 := by unfold pt; rw [if_neg (by omega)]
  have hsy : ∀ i, i ≤ lenf ow cs p → sy K (cs n) p i = K (p + i) + 1 := by
    intro i hi; unfold sy; rw [if_pos (by omega)]
  have hpt : ∀ i, i < m - fr → pt sk m fr i = sk (fr + i) + 1 := by
    intro i hi; unfold pt; rw [if_pos (by omega)]
  have a2 : lw K (cs n) sk m fr p ≤ lenf ow cs p := by
    by_cases q : lenf ow cs p < lw K (cs n) sk m fr p
    · have e := lcF_same q
      rw [hsy _ (Nat.le_refl _), hl.2.2.1] at e
      unfold pt at e
      by_cases g : fr + lenf ow cs p < m
      · rw [if_pos g] at e
        have := hsk _ g
        omega
      · rw [if_neg g] at e; omega
    · omega
  have a1 : lw K (cs n) sk m fr p ≤ m - fr := by
    by_cases q : m - fr < lw K (cs n) sk m fr p
    · have e := lcF_same q
      rw [d1, hsy _ (by omega)] at e
      omega
    · omega
  have hlt : lcF (pt sk m fr) (sy K (cs n) p) < 16448 := by
    have : lw K (cs n) sk m fr p < 16448 := by omega
    exact this
  have hdiff : pt sk m fr (lw K (cs n) sk m fr p) ≠ sy K (cs n) p (lw K (cs n) sk m fr p) := lcF_diff hlt
  have hcl : codF (sy K (cs n) p) < codF (pt sk m fr) ↔ sy K (cs n) p (lw K (cs n) sk m fr p) < pt sk m fr (lw K (cs n) sk m fr p) := by
    have := codF_lt (sy_lt hd p) (pt_lt (fr := fr) hsk) (by rw [lcF_comm]; exact hlt)
    rw [lcF_comm (sy K (cs n) p)] at this
    exact this
  have hcl2 : codF (pt sk m fr) < codF (sy K (cs n) p) ↔ pt sk m fr (lw K (cs n) sk m fr p) < sy K (cs n) p (lw K (cs n) sk m fr p) := codF_lt (pt_lt (fr := fr) hsk) (sy_lt hd p) hlt
  refine ⟨a1, a2, fun i hi => ?_, fun q => ?_, ?_, ?_⟩
  · have e := lcF_same hi
    rw [hsy _ (by omega), hpt _ (by omega)] at e
    omega
  · rw [hsy _ a2, hpt _ q] at hdiff
    omega
  · rw [XX_codF, hcl, hsy _ a2]
    by_cases q : lw K (cs n) sk m fr p < m - fr
    · rw [hpt _ q]; omega
    · have e : lw K (cs n) sk m fr p = m - fr := by omega
      have : pt sk m fr (lw K (cs n) sk m fr p) = 0 := by rw [e]; exact d1
      omega
  · rw [XX_codF]
    omega
theorem lw_is {K ow cs sk : Nat → Nat} {n m fr p l : Nat} (hd : DocOk K ow cs n) (hsk : ∀ i, i < m → 64 ≤ sk i ∧ sk i < 320) (hm : m ≤ 200) (hp : p < cs n) (h1 : l ≤ m - fr) (h2 : l ≤ lenf ow cs p) (hs : ∀ i, i < l → sk (fr + i) = K (p + i))
    (he : l = m - fr ∨ l = lenf ow cs p ∨ sk (fr + l) ≠ K (p + l)) : lw K (cs n) sk m fr p = l := by
  have hl := doc_len hd hp
  have hN := doc_N hd
  have h64 := hd.2.2.2.1
  have hw := (doc_at hd hp).1
  refine lcF_is (by omega) (fun i hi => ?_) ?_
  · unfold pt sy
    rw [if_pos (by omega), if_pos (by omega), hs i hi]
  · unfold pt sy
    rw [if_pos (show p + l < cs n by omega)]
    by_cases q : fr + l < m
    · rw [if_pos q]
      rcases he with e | e | e
      · omega
      · have := hl.2.2.1
        rw [← e] at this
        have := hsk _ q
        omega
      · omega
    · rw [if_neg q]; omega
theorem s_alikeWith {text owners starts sb : Nat → Int32} {K ow cs sk : Nat → Nat} {n m fr p k cap : Nat} (h : LibC text owners starts K ow cs n) (hsk : ∀ i, i < m → 64 ≤ sk i ∧ sk i < 320) (hsb : ∀ i, i < m → sb i = tx (sk i)) (hm : m ≤ 200) (hcap : m ≤ cap)
    (hfr : fr ≤ m) (hp : p < cs n) (hk : k ≤ lw K (cs n) sk m fr p) {post : Int32 → Prop} (hpost : post (nI (lw K (cs n) sk m fr p))) :
    vc_OR_alikeWith (nI fr) (nI p) (nI k) cap (nI (cs n)) text (nI m) sb post := by
  obtain ⟨hd, ht, ho, hst⟩ := h
  have hN := doc_N hd
  obtain ⟨a1, a2, a3, a4, a5, a6⟩ := lw_ex hd hsk hm hfr hp
  have hl := doc_len hd hp
  have key : ∀ f x, x + f = lw K (cs n) sk m fr p → vc_OR_alikeWith_21 (nI fr) (nI p) (nI k) cap (nI (cs n)) text (nI m) sb post (f + 1) (nI (min (m - fr) (cs n - p))) (nI x) := by
    intro f
    induction f with
    | zero =>
      intro x hx
      have e : x = lw K (cs n) sk m fr p := by omega
      rw [vc_OR_alikeWith_21]
      simp (disch := omega) only [li0, li1, li2, li3, li4, li5, li6, li7, li8, li16, li20, li24, li31, li63, li64, li65, li200, li255, li256, li320, li16384, li16448, li65535, li65536, nI_add, nI_subI, nI_mulI, nI_ltI, nI_leI, nI_eq, nI_clamp, vpI, nI_maxN, nI_minN, ls_nI, half_nI, nI_addneg]
      refine ⟨fun _ => by rw [e]; exact hpost, fun q => ⟨by omega, by omega, fun _ => by rw [e]; exact hpost, fun g => ?_⟩⟩
      rw [hsb _ (by omega), ht _ (by omega), tx_eq (by have := hsk (fr + x) (by omega); omega) (by have := doc_K hd (show p + x < cs n by omega); omega)] at g
      rw [e] at g
      exact absurd g (a4 (by omega))
    | succ f ih =>
      intro x hx
      rw [vc_OR_alikeWith_21]
      simp (disch := omega) only [li0, li1, li2, li3, li4, li5, li6, li7, li8, li16, li20, li24, li31, li63, li64, li65, li200, li255, li256, li320, li16384, li16448, li65535, li65536, nI_add, nI_subI, nI_mulI, nI_ltI, nI_leI, nI_eq, nI_clamp, vpI, nI_maxN, nI_minN, ls_nI, half_nI, nI_addneg]
      refine ⟨fun q => by omega, fun q => ⟨by omega, by omega, fun g => ?_, fun _ => ih (x + 1) (by omega)⟩⟩
      rw [hsb _ (by omega), ht _ (by omega), a3 x (by omega)] at g
      exact absurd rfl g
  unfold vc_OR_alikeWith
  simp (disch := omega) only [li0, li1, li2, li3, li4, li5, li6, li7, li8, li16, li20, li24, li31, li63, li64, li65, li200, li255, li256, li320, li16384, li16448, li65535, li65536, nI_add, nI_subI, nI_mulI, nI_ltI, nI_leI, nI_eq, nI_clamp, vpI, nI_maxN, nI_minN, ls_nI, half_nI, nI_addneg]
  exact ⟨lw K (cs n) sk m fr p - k + 1, key (lw K (cs n) sk m fr p - k) k (by omega)⟩
theorem s_isBefore {text owners starts sb : Nat → Int32} {K ow cs sk : Nat → Nat} {n m fr p cap : Nat} (h : LibC text owners starts K ow cs n) (hsk : ∀ i, i < m → 64 ≤ sk i ∧ sk i < 320) (hsb : ∀ i, i < m → sb i = tx (sk i)) (hm : m ≤ 200) (hcap : m ≤ cap)
    (hfr : fr ≤ m) (hp : p < cs n) {post : Int32 → Prop} (h1 : XX K (cs n) p < codF (pt sk m fr) → post (nI 1)) (h0 : ¬ XX K (cs n) p < codF (pt sk m fr) → post (nI 0)) :
    vc_OR_isBefore (nI (fr + lw K (cs n) sk m fr p)) (nI (p + lw K (cs n) sk m fr p)) cap (nI (cs n)) text (nI m) sb post := by
  obtain ⟨hd, ht, ho, hst⟩ := h
  have hN := doc_N hd
  obtain ⟨a1, a2, a3, a4, a5, a6⟩ := lw_ex hd hsk hm hfr hp
  have hl := doc_len hd hp
  unfold vc_OR_isBefore
  simp (disch := omega) only [li0, li1, li2, li3, li4, li5, li6, li7, li8, li16, li20, li24, li31, li63, li64, li65, li200, li255, li256, li320, li16384, li16448, li65535, li65536, nI_add, nI_subI, nI_mulI, nI_ltI, nI_leI, nI_eq, nI_clamp, vpI, nI_maxN, nI_minN, ls_nI, half_nI, nI_addneg]
  refine ⟨fun q => h0 (fun g => by have := a5.mp g; omega), fun q => ⟨fun q2 => by omega, fun q2 => ⟨by omega, by omega, ?_⟩⟩⟩
  have b1 := hsk _ (show fr + lw K (cs n) sk m fr p < m by omega)
  have b2 := doc_K hd (show p + lw K (cs n) sk m fr p < cs n by omega)
  rw [hsb _ (by omega), ht _ (by omega), tx_le (by omega) (by omega)]
  refine ⟨fun g => h0 (fun g2 => by have := a5.mp g2; omega), fun g => h1 (a5.mpr ⟨by omega, by omega⟩)⟩
/-- where the sought would stand in the order, and how long it is alike there -/
def Loc (K cs sk sa : Nat → Nat) (n m fr low len : Nat) : Prop :=
  n ≤ low ∧ low ≤ cs n ∧ (∀ r, n ≤ r → r < low → XX K (cs n) (sa r) < codF (pt sk m fr)) ∧ (∀ r, low ≤ r → r < cs n → codF (pt sk m fr) < XX K (cs n) (sa r)) ∧
  (∀ r, n ≤ r → r < cs n → lw K (cs n) sk m fr (sa r) ≤ len) ∧ (len = 0 ∨ ∃ r, n ≤ r ∧ r < cs n ∧ lw K (cs n) sk m fr (sa r) = len)
theorem s_locate {text owners starts sb so : Nat → Int32} {K ow cs sk sa rk : Nat → Nat} {n m fr cap : Nat} (h : LibC text owners starts K ow cs n) (hs : SAok K (cs n) sa rk) (hso : ∀ k, k < cs n → so k = nI (sa k))
    (hsk : ∀ i, i < m → 64 ≤ sk i ∧ sk i < 320) (hsb : ∀ i, i < m → sb i = tx (sk i)) (hm : m ≤ 200) (hcap : m ≤ cap) (hfr : fr ≤ m) {lr ll : Int32}
    {post : Int32 → Int32 → Prop} (hp : ∀ low len, Loc K cs sk sa n m fr low len → post (nI low) (nI len)) :
    vc_OR_locate (nI fr) cap (nI n) (nI (cs n)) so text (nI m) sb post lr ll := by
  have hd := h.1
  have hN := doc_N hd
  have h64 := hd.2.2.2.1
  have hnN : n ≤ cs n := by
    have := doc_mono hd (show 0 ≤ n by omega) (Nat.le_refl n)
    omega
  have hptl := pt_lt (fr := fr) hsk
  have hlwle : ∀ p, p < cs n → lw K (cs n) sk m fr p ≤ 200 := fun p hp => by have := (lw_ex hd hsk hm hfr hp).1; omega
  have key : ∀ f lo hi la ha, hi ≤ lo + f → n ≤ lo → lo ≤ hi → hi ≤ cs n →
      (∀ r, n ≤ r → r < lo → XX K (cs n) (sa r) < codF (pt sk m fr)) → (∀ r, hi ≤ r → r < cs n → codF (pt sk m fr) < XX K (cs n) (sa r)) →
      (lo = n → la = 0) → (n < lo → la = lw K (cs n) sk m fr (sa (lo - 1))) → (hi = cs n → ha = 0) → (hi < cs n → ha = lw K (cs n) sk m fr (sa hi)) →
      vc_OR_locate_17 (nI fr) cap (nI n) (nI (cs n)) so text (nI m) sb post (f + 1) (nI lo) (nI hi) (nI la) (nI ha) lr ll := by
    intro f
    induction f with
    | zero =>
      intro lo hi la ha hf hlo hlh hhi b1 b2 l0 l1 h0 h1
      have bla : la ≤ 200 := by
        by_cases q : n < lo
        · rw [l1 q]; exact hlwle _ (hs.1 _ (by omega)).1
        · rw [l0 (by omega)]; omega
      have bha : ha ≤ 200 := by
        by_cases q : hi < cs n
        · rw [h1 q]; exact hlwle _ (hs.1 _ (by omega)).1
        · rw [h0 (by omega)]; omega
      rw [vc_OR_locate_17]
      simp (disch := omega) only [li0, li1, li2, li3, li4, li5, li6, li7, li8, li16, li20, li24, li31, li63, li64, li65, li200, li255, li256, li320, li16384, li16448, li65535, li65536, nI_add, nI_subI, nI_mulI, nI_ltI, nI_leI, nI_eq, nI_clamp, vpI, nI_maxN, nI_minN, ls_nI, half_nI, nI_addneg]
      refine ⟨fun _ => hp lo (max la ha) ⟨hlo, by omega, b1, fun r r1 r2 => b2 r (by omega) r2, fun r r1 r2 => ?_, ?_⟩, fun q => absurd (by omega) q⟩
      · by_cases q : r < lo
        · by_cases q2 : r = lo - 1
          · rw [q2, ← l1 (by omega)]; omega
          · have x1 := hs.2.2 r (lo - 1) (by omega) (by omega)
            have x2 := b1 (lo - 1) (by omega) (by omega)
            rw [XX_codF, XX_codF] at x1
            rw [XX_codF] at x2
            have mid := lcF_mid (sy_lt hd (sa r)) (sy_lt hd (sa (lo - 1))) hptl (Nat.le_of_lt x1) (Nat.le_of_lt x2)
            have e1 : lw K (cs n) sk m fr (sa r) = lcF (sy K (cs n) (sa r)) (pt sk m fr) := lcF_comm _ _
            have e2 : lw K (cs n) sk m fr (sa (lo - 1)) = lcF (sy K (cs n) (sa (lo - 1))) (pt sk m fr) := lcF_comm _ _
            have := l1 (by omega)
            omega
        · by_cases q2 : r = hi
          · rw [q2, ← h1 (by omega)]; omega
          · have x1 := hs.2.2 hi r (by omega) (by omega)
            have x2 := b2 hi (by omega) (by omega)
            rw [XX_codF, XX_codF] at x1
            rw [XX_codF] at x2
            have mid := lcF_mid hptl (sy_lt hd (sa hi)) (sy_lt hd (sa r)) (Nat.le_of_lt x2) (Nat.le_of_lt x1)
            have e1 : lw K (cs n) sk m fr (sa r) = lcF (pt sk m fr) (sy K (cs n) (sa r)) := rfl
            have e2 : lw K (cs n) sk m fr (sa hi) = lcF (pt sk m fr) (sy K (cs n) (sa hi)) := rfl
            have := h1 (by omega)
            omega
      · by_cases q : max la ha = 0
        · exact Or.inl q
        · by_cases q2 : la ≤ ha
          · refine Or.inr ⟨hi, by omega, ?_, ?_⟩
            · by_cases g : hi < cs n
              · exact g
              · have := h0 (by omega); omega
            · by_cases g : hi < cs n
              · rw [← h1 g]; omega
              · have := h0 (by omega); omega
          · refine Or.inr ⟨lo - 1, ?_, by omega, ?_⟩
            · by_cases g : n < lo
              · omega
              · have := l0 (by omega); omega
            · by_cases g : n < lo
              · rw [← l1 g]; omega
              · have := l0 (by omega); omega
    | succ f ih =>
      intro lo hi la ha hf hlo hlh hhi b1 b2 l0 l1 h0 h1
      by_cases hlt : lo < hi
      · have bla : la ≤ 200 := by
          by_cases q : n < lo
          · rw [l1 q]; exact hlwle _ (hs.1 _ (by omega)).1
          · rw [l0 (by omega)]; omega
        have bha : ha ≤ 200 := by
          by_cases q : hi < cs n
          · rw [h1 q]; exact hlwle _ (hs.1 _ (by omega)).1
          · rw [h0 (by omega)]; omega
        have hmid := hs.1 ((lo + hi) / 2) (by omega)
        have hkn : min la ha ≤ lw K (cs n) sk m fr (sa ((lo + hi) / 2)) := by
          by_cases q : n < lo ∧ hi < cs n
          · have e1 := l1 q.1
            have e2 := h1 q.2
            have x1 := b1 (lo - 1) (by omega) (by omega)
            have x2 := b2 hi (by omega) q.2
            have x3 := hs.2.2 (lo - 1) ((lo + hi) / 2) (by omega) (by omega)
            have x4 := hs.2.2 ((lo + hi) / 2) hi (by omega) (by omega)
            rw [XX_codF] at x1 x2
            rw [XX_codF, XX_codF] at x3 x4
            have m1 := lcF_mid (sy_lt hd (sa (lo - 1))) hptl (sy_lt hd (sa hi)) (Nat.le_of_lt x1) (Nat.le_of_lt x2)
            have m2 := lcF_mid (sy_lt hd (sa (lo - 1))) (sy_lt hd (sa ((lo + hi) / 2))) (sy_lt hd (sa hi)) (Nat.le_of_lt x3) (Nat.le_of_lt x4)
            have m3 := lcF_tri (pt sk m fr) (sy K (cs n) (sa (lo - 1))) (sy K (cs n) (sa ((lo + hi) / 2)))
            have c1 := lcF_comm (sy K (cs n) (sa (lo - 1))) (pt sk m fr)
            have e3 : lw K (cs n) sk m fr (sa (lo - 1)) = lcF (pt sk m fr) (sy K (cs n) (sa (lo - 1))) := rfl
            have e4 : lw K (cs n) sk m fr (sa hi) = lcF (pt sk m fr) (sy K (cs n) (sa hi)) := rfl
            have e5 : lw K (cs n) sk m fr (sa ((lo + hi) / 2)) = lcF (pt sk m fr) (sy K (cs n) (sa ((lo + hi) / 2))) := rfl
            omega
          · by_cases q1 : n < lo
            · have := h0 (by omega); omega
            · have := l0 (by omega); omega
        have bm := hlwle _ hmid.1
        rw [vc_OR_locate_17]
        unfold vc_OR_locate_94
        simp (disch := omega) only [li0, li1, li2, li3, li4, li5, li6, li7, li8, li16, li20, li24, li31, li63, li64, li65, li200, li255, li256, li320, li16384, li16448, li65535, li65536, nI_add, nI_subI, nI_mulI, nI_ltI, nI_leI, nI_eq, nI_clamp, vpI, nI_maxN, nI_minN, ls_nI, half_nI, nI_addneg, hso]
        refine ⟨fun q => by omega, fun _ => ⟨by omega, s_alikeWith h hsk hsb hm hcap hfr hmid.1 hkn ?_⟩⟩
        rw [nI_add, nI_add]
        refine s_isBefore h hsk hsb hm hcap hfr hmid.1 (fun g => ⟨fun e => absurd e (by decide), fun _ => ?_⟩) (fun g => ⟨fun _ => ?_, fun e => absurd rfl e⟩)
        · refine ih _ hi _ ha (by omega) (by omega) (by omega) hhi (fun r r1 r2 => ?_) b2 (fun e => by omega) (fun _ => by rw [Nat.add_sub_cancel]) h0 h1
          by_cases e : r = (lo + hi) / 2
          · rw [e]; exact g
          · have := hs.2.2 r ((lo + hi) / 2) (by omega) (by omega)
            omega
        · have g2 : codF (pt sk m fr) < XX K (cs n) (sa ((lo + hi) / 2)) := by
            have := (lw_ex hd hsk hm hfr hmid.1).2.2.2.2.2
            omega
          refine ih lo _ la _ (by omega) (by omega) (by omega) (by omega) b1 (fun r r1 r2 => ?_) l0 l1 (fun e => by omega) (fun _ => rfl)
          by_cases e : r = (lo + hi) / 2
          · rw [e]; exact g2
          · have := hs.2.2 ((lo + hi) / 2) r (by omega) (by omega)
            omega
      · -- nothing is left: as with less fuel
        have bla : la ≤ 200 := by
          by_cases q : n < lo
          · rw [l1 q]; exact hlwle _ (hs.1 _ (by omega)).1
          · rw [l0 (by omega)]; omega
        have bha : ha ≤ 200 := by
          by_cases q : hi < cs n
          · rw [h1 q]; exact hlwle _ (hs.1 _ (by omega)).1
          · rw [h0 (by omega)]; omega
        have := ih lo hi la ha (by omega) hlo hlh hhi b1 b2 l0 l1 h0 h1
        rw [vc_OR_locate_17] at this ⊢
        refine ⟨this.1, fun q => absurd ?_ q⟩
        rw [nI_leI (by omega) (by omega)]
        omega
  exact ⟨cs n - n + 1, key (cs n - n) n (cs n) 0 0 (by omega) (Nat.le_refl _) hnN (Nat.le_refl _) (fun r r1 r2 => by omega) (fun r r1 r2 => by omega) (fun _ => rfl) (fun q => by omega) (fun _ => rfl) (fun q => by omega)⟩
