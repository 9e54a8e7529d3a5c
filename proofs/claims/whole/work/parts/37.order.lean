/-! the order: alike, pieces -/
theorem kasai {K ow cs : Nat → Nat} {n p : Nat} {sa rk : Nat → Nat} (h : DocOk K ow cs n) (hs : SAok K (cs n) sa rk) (hp : p + 1 < cs n) : LL K (cs n) sa (rk p) - 1 ≤ LL K (cs n) sa (rk (p + 1)) ∧ (rk (p + 1) = 0 → LL K (cs n) sa (rk p) ≤ 1) := by
  by_cases q : LL K (cs n) sa (rk p) ≤ 1
  · exact ⟨by omega, fun _ => q⟩
  · have a := hs.2.1 p (by omega)
    have a1 := hs.2.1 (p + 1) hp
    have h0 : rk p ≠ 0 := by
      intro e
      rw [e] at q
      simp [LL] at q
    have e1 : rk p = (rk p - 1) + 1 := by omega
    have b := hs.1 (rk p - 1) (by omega)
    have e2 : LL K (cs n) sa (rk p) = lcp K (cs n) (sa (rk p - 1)) p := by
      rw [e1, LL_succ, ← e1, a.2]
    have hne : sa (rk p - 1) ≠ p := fun e => by
      have := b.2
      rw [e] at this
      omega
    have hx : XX K (cs n) (sa (rk p - 1)) < XX K (cs n) p := by
      have := hs.2.2 (rk p - 1) (rk p) (by omega) a.1
      rwa [a.2] at this
    have l1 := lcp_at h b.1 (by omega) hne
    have hn := lcp_next h b.1 (by omega) hne (show 1 ≤ lcp K (cs n) (sa (rk p - 1)) p by omega)
    have hx1 := (XX_next h b.1 (by omega) hne (show 1 ≤ lcp K (cs n) (sa (rk p - 1)) p by omega)).mpr hx
    have hq1 : sa (rk p - 1) + 1 < cs n := by omega
    have hr := (SA_lt hs hq1 hp).mp hx1
    have e3 : rk (p + 1) = (rk (p + 1) - 1) + 1 := by omega
    refine ⟨?_, fun e => by omega⟩
    have e4 : LL K (cs n) sa (rk (p + 1)) = lcp K (cs n) (sa (rk (p + 1) - 1)) (p + 1) := by
      rw [e3, LL_succ, ← e3, a1.2]
    rw [e4, e2]
    have c := hs.1 (rk (p + 1) - 1) (by omega)
    have hx2 : XX K (cs n) (sa (rk (p + 1) - 1)) < XX K (cs n) (p + 1) := (SA_lt hs c.1 hp).mpr (by rw [c.2]; omega)
    have hx3 : XX K (cs n) (sa (rk p - 1) + 1) ≤ XX K (cs n) (sa (rk (p + 1) - 1)) := by
      have := SA_lt hs c.1 hq1
      rw [c.2] at this
      omega
    have m := lcp_mid h hx3 (Nat.le_of_lt hx2)
    rw [← hn, m]
    exact Nat.min_le_right _ _
theorem s_measureAlike {text owners starts : Nat → Int32} {K ow cs : Nat → Nat} {n : Nat} (h : LibC text owners starts K ow cs n) {sa rk : Nat → Nat} (hs : SAok K (cs n) sa rk) {so rz ab0 : Nat → Int32}
    (hso : ∀ k, k < cs n → so k = nI (sa k)) (hrz : ∀ p, p < cs n → rz p = nI (rk p))
    {post : (Nat → Int32) → Prop} (hp : ∀ ab, (∀ r, r < cs n → ab r = nI (LL K (cs n) sa r)) → post ab) :
    vc_OR_measureAlike (nI (cs n)) so rz (nI n) text starts post ab0 := by
  have hd := h.1
  have hN := doc_N hd
  have hLL : ∀ r, r < cs n → LL K (cs n) sa r < 16448 := by
    intro r hr
    by_cases e : r = 0
    · simp [LL, e]
    · have e1 : r = r - 1 + 1 := by omega
      rw [e1, LL_succ, ← e1]
      have a := hs.1 (r - 1) (by omega)
      have b := hs.1 r hr
      have := lcp_at hd a.1 b.1 (fun e => by have := SA_inj hs (by omega) (by omega) e; omega)
      omega
  have key : ∀ k x kn, x + k = cs n → kn < 16448 → (x < cs n → kn ≤ LL K (cs n) sa (rk x)) → ∀ ab, (∀ j, j < x → ab (rk j) = nI (LL K (cs n) sa (rk j))) →
      vc_OR_measureAlike_4 (nI (cs n)) so rz (nI n) text starts post (k + 1) (nI kn) (nI x) ab := by
    intro k
    induction k with
    | zero =>
      intro x kn hx hkn hk ab hab
      rw [vc_OR_measureAlike_4]
      simp (disch := omega) only [li0, li1, li2, li3, li4, li5, li6, li7, li8, li16, li20, li24, li31, li63, li64, li65, li200, li255, li256, li320, li16384, li16448, li65535, li65536, nI_add, nI_subI, nI_mulI, nI_ltI, nI_leI, nI_eq, nI_clamp, vpI, nI_maxN, nI_minN, ls_nI, half_nI, nI_addneg]
      refine ⟨fun _ => hp ab (fun r hr => ?_), fun q => absurd (by omega) q⟩
      have a := hs.1 r hr
      have := hab (sa r) (by omega)
      rwa [a.2] at this
    | succ k ih =>
      intro x kn hx hkn hk ab hab
      have a := hs.2.1 x (by omega)
      have hk' := hk (by omega)
      have hL := hLL _ a.1
      have step : ∀ l, l = LL K (cs n) sa (rk x) → vc_OR_measureAlike_44 (nI (cs n)) so rz (nI n) text starts post (fun x1' x2' z_alikeBefore' => vc_OR_measureAlike_4 (nI (cs n)) so rz (nI n) text starts post (k + 1) x1' x2' z_alikeBefore') (nI x) (nI (rk x)) (nI l) ab := by
        intro l hl
        unfold vc_OR_measureAlike_44 vc_OR_measureAlike_63
        have hab' : ∀ j, j < x + 1 → upd ab (rk x) (nI l) (rk j) = nI (LL K (cs n) sa (rk j)) := by
          intro j hj
          by_cases e : j = x
          · rw [e, upS, hl]
          · rw [upN (fun e2 => e (by rw [← (hs.2.1 j (by omega)).2, e2, a.2]))]
            exact hab j (by omega)
        simp (disch := omega) only [li0, li1, li2, li3, li4, li5, li6, li7, li8, li16, li20, li24, li31, li63, li64, li65, li200, li255, li256, li320, li16384, li16448, li65535, li65536, nI_add, nI_subI, nI_mulI, nI_ltI, nI_leI, nI_eq, nI_clamp, vpI, nI_maxN, nI_minN, ls_nI, half_nI, nI_addneg]
        refine ⟨by omega, fun q => ?_, fun q => ?_⟩
        · exact ih (x + 1) 0 (by omega) (by omega) (fun _ => by omega) _ hab'
        · rw [nI_subI (by omega)]
          refine ih (x + 1) (l - 1) (by omega) (by omega) (fun hx1 => ?_) _ hab'
          have := (kasai hd hs hx1).1
          omega
      rw [vc_OR_measureAlike_4]
      simp (disch := omega) only [li0, li1, li2, li3, li4, li5, li6, li7, li8, li16, li20, li24, li31, li63, li64, li65, li200, li255, li256, li320, li16384, li16448, li65535, li65536, nI_add, nI_subI, nI_mulI, nI_ltI, nI_leI, nI_eq, nI_clamp, vpI, nI_maxN, nI_minN, ls_nI, half_nI, nI_addneg, hrz]
      refine ⟨fun q => by omega, fun _ => ⟨by omega, fun q => ?_, fun q => ?_⟩⟩
      · have b := hs.1 (rk x - 1) (by omega)
        have e1 : rk x = (rk x - 1) + 1 := by omega
        have e2 : LL K (cs n) sa (rk x) = lcp K (cs n) x (sa (rk x - 1)) := by
          rw [e1, LL_succ, ← e1, a.2, lcp_comm]
        simp (disch := omega) only [li0, li1, li2, li3, li4, li5, li6, li7, li8, li16, li20, li24, li31, li63, li64, li65, li200, li255, li256, li320, li16384, li16448, li65535, li65536, nI_add, nI_subI, nI_mulI, nI_ltI, nI_leI, nI_eq, nI_clamp, vpI, nI_maxN, nI_minN, ls_nI, half_nI, nI_addneg, hso]
        refine ⟨by omega, s_alike h (by omega) b.1 (fun e => ?_) (by omega) ?_⟩
        · have := b.2
          rw [← e] at this
          omega
        · exact step _ e2.symm
      · refine step 0 ?_
        rw [q]; rfl
  exact ⟨cs n + 1, key (cs n) 0 0 (by omega) (by omega) (fun _ => by omega) _ (fun j hj => by omega)⟩
def sm (f : Nat → Nat) : Nat → Nat
  | 0 => 0
  | n + 1 => sm f n + f n
theorem sm_le {f : Nat → Nat} {b : Nat} : ∀ n, (∀ i, i < n → f i ≤ b) → sm f n ≤ n * b := by
  intro n
  induction n with
  | zero => intro _; simp [sm]
  | succ n ih =>
    intro h
    have := ih (fun i hi => h i (by omega))
    have := h n (by omega)
    simp only [sm, Nat.add_mul]
    omega
theorem sm_mono (f : Nat → Nat) {m n : Nat} (h : m ≤ n) : sm f m ≤ sm f n := by
  induction n with
  | zero => rw [show m = 0 by omega]; omega
  | succ n ih =>
    by_cases e : m = n + 1
    · rw [e]; omega
    · have := ih (by omega)
      simp only [sm]; omega
/-- new pieces of the i-th suffix -/
noncomputable def pcs (K ow cs : Nat → Nat) (n : Nat) (sa : Nat → Nat) (i : Nat) : Nat := lenf ow cs (sa (n + i)) - LL K (cs n) sa (n + i)
theorem LL_len {K ow cs : Nat → Nat} {n r : Nat} {sa rk : Nat → Nat} (h : DocOk K ow cs n) (hs : SAok K (cs n) sa rk) (hr : r < cs n) : LL K (cs n) sa r ≤ lenf ow cs (sa r) := by
  by_cases e : r = 0
  · simp [LL, e]
  · have e1 : r = r - 1 + 1 := by omega
    rw [e1, LL_succ, ← e1]
    have a := hs.1 (r - 1) (by omega)
    have b := hs.1 r hr
    exact (lcp_len h a.1 b.1 (fun e => by have := SA_inj hs (by omega) (by omega) e; omega)).2
theorem lenf_le {K ow cs : Nat → Nat} {n p : Nat} (h : DocOk K ow cs n) (hp : p < cs n) : lenf ow cs p + ow p < 16448 ∧ lenf ow cs p ≤ 16384 := by
  have a := doc_len h hp
  have b := doc_at h hp
  have c := doc_mono h (show ow p + 1 ≤ n by omega) (Nat.le_refl n)
  have c2 := doc_mono h (show 0 ≤ ow p by omega) (show ow p ≤ n by omega)
  have d := h.2.2.2.2
  have d2 := h.2.2.2.1
  omega
theorem s_lengthFrom {text owners starts : Nat → Int32} {K ow cs : Nat → Nat} {n p : Nat} (h : LibC text owners starts K ow cs n) (hp : p < cs n) {post : Int32 → Prop} (hpost : post (nI (lenf ow cs p))) :
    vc_LB_lengthFrom (nI p) owners starts post := by
  obtain ⟨hd, ht, ho, hst⟩ := h
  have hN := doc_N hd
  have a := doc_len hd hp
  have b := doc_at hd hp
  have c := hd.2.2.2.1
  unfold vc_LB_lengthFrom vc_LB_endOf
  simp (disch := omega) only [li0, li1, li2, li3, li4, li5, li6, li7, li8, li16, li20, li24, li31, li63, li64, li65, li200, li255, li256, li320, li16384, li16448, li65535, li65536, nI_add, nI_subI, nI_mulI, nI_ltI, nI_leI, nI_eq, nI_clamp, vpI, nI_maxN, nI_minN, ls_nI, half_nI, nI_addneg, ho, hst]
  refine ⟨by omega, by omega, ?_⟩
  unfold lenf at hpost
  exact hpost
theorem s_sumPieces {text owners starts : Nat → Int32} {K ow cs : Nat → Nat} {n : Nat} (h : LibC text owners starts K ow cs n) {sa rk : Nat → Nat} (hs : SAok K (cs n) sa rk) {so ab : Nat → Int32} {pz0 : Nat → Int64}
    (hso : ∀ k, k < cs n → so k = nI (sa k)) (hab : ∀ r, r < cs n → ab r = nI (LL K (cs n) sa r))
    {post : (Nat → Int64) → Prop} (hp : ∀ pz, (∀ i, n + i < cs n → pz (n + i) = lN (sm (pcs K ow cs n sa) (i + 1))) → post pz) :
    vc_OR_sumPieces (nI n) (nI (cs n)) so ab owners starts post pz0 := by
  have hd := h.1
  have hN := doc_N hd
  have hn := hd.2.2.2.1
  have hnN : n ≤ cs n := by
    have := doc_mono hd (show 0 ≤ n by omega) (Nat.le_refl n)
    omega
  have key : ∀ k x, n + x + k = cs n → ∀ pz, (∀ i, i < x → pz (n + i) = lN (sm (pcs K ow cs n sa) (i + 1))) →
      vc_OR_sumPieces_7 (nI n) (nI (cs n)) so ab owners starts post (k + 1) (lN (sm (pcs K ow cs n sa) x)) (nI (n + x)) pz := by
    intro k
    induction k with
    | zero =>
      intro x hx pz hpz
      rw [vc_OR_sumPieces_7]
      simp (disch := omega) only [li0, li1, li2, li3, li4, li5, li6, li7, li8, li16, li20, li24, li31, li63, li64, li65, li200, li255, li256, li320, li16384, li16448, li65535, li65536, nI_add, nI_subI, nI_mulI, nI_ltI, nI_leI, nI_eq, nI_clamp, vpI, nI_maxN, nI_minN, ls_nI, half_nI, nI_addneg]
      refine ⟨fun _ => hp pz (fun i hi => hpz i (by omega)), fun q => absurd (by omega) q⟩
    | succ k ih =>
      intro x hx pz hpz
      have a := (hs.1 (n + x) (by omega)).1
      have b := lenf_le hd a
      have c := LL_len hd hs (show n + x < cs n by omega)
      rw [vc_OR_sumPieces_7]
      simp (disch := omega) only [li0, li1, li2, li3, li4, li5, li6, li7, li8, li16, li20, li24, li31, li63, li64, li65, li200, li255, li256, li320, li16384, li16448, li65535, li65536, nI_add, nI_subI, nI_mulI, nI_ltI, nI_leI, nI_eq, nI_clamp, vpI, nI_maxN, nI_minN, ls_nI, half_nI, nI_addneg, hso]
      refine ⟨fun q => by omega, fun _ => ⟨by omega, s_lengthFrom h a ⟨by omega, by omega, ?_⟩⟩⟩
      rw [hab _ (by omega), nI_subI c, nI_l (by omega), lN_add]
      have := ih (x + 1) (by omega) (vp_updL pz (n + x) (lN (sm (pcs K ow cs n sa) x + (lenf ow cs (sa (n + x)) - LL K (cs n) sa (n + x))))) (fun i hi => ?_)
      · exact this
      · by_cases e : i = x
        · rw [e, pk_uLs]; rfl
        · rw [pk_uLn (by omega)]; exact hpz i (by omega)
  have := key (cs n - n) 0 (by omega) pz0 (fun i hi => by omega)
  exact ⟨cs n - n + 1, this⟩
/-- the order's cells -/
def OrdC (first size : Int32) (so rz ab : Nat → Int32) (pz : Nat → Int64) (K ow cs : Nat → Nat) (n : Nat) (sa rk : Nat → Nat) : Prop :=
  first = nI n ∧ size = nI (cs n) ∧ SAok K (cs n) sa rk ∧ (∀ k, k < cs n → so k = nI (sa k)) ∧ (∀ p, p < cs n → rz p = nI (rk p)) ∧ (∀ r, r < cs n → ab r = nI (LL K (cs n) sa r)) ∧
    (∀ i, n + i < cs n → pz (n + i) = lN (sm (pcs K ow cs n sa) (i + 1)))
theorem s_renew {text owners starts : Nat → Int32} {K ow cs : Nat → Nat} {n : Nat} (h : LibC text owners starts K ow cs n) {first size sz : Int32} {so rz ab bt nr t : Nat → Int32} {pz : Nat → Int64}
    {post : Int32 → Int32 → (Nat → Int32) → (Nat → Int32) → (Nat → Int32) → (Nat → Int64) → Int32 → (Nat → Int32) → (Nat → Int32) → (Nat → Int32) → Prop}
    (hp : ∀ first' size' so' rz' ab' pz' sz' bt' nr' t', (∃ sa rk, OrdC first' size' so' rz' ab' pz' K ow cs n sa rk) → post first' size' so' rz' ab' pz' sz' bt' nr' t') :
    vc_OR_renew (nI n) text owners starts post first size so rz ab pz sz bt nr t := by
  have hd := h.1
  have hN := doc_N hd
  have hn := hd.2.2.2.1
  have hst := h.2.2.2
  unfold vc_OR_renew vc_LB_indexedText
  simp (disch := omega) only [li0, li1, li2, li3, li4, li5, li6, li7, li8, li16, li20, li24, li31, li63, li64, li65, li200, li255, li256, li320, li16384, li16448, li65535, li65536, nI_add, nI_subI, nI_mulI, nI_ltI, nI_leI, nI_eq, nI_clamp, vpI, nI_maxN, nI_minN, ls_nI, half_nI, nI_addneg, hst]
  refine ⟨by omega, fun q => ?_, fun q => ?_⟩
  · have z : cs n = 0 := by omega
    refine hp _ _ _ _ _ _ _ _ _ _ ⟨fun k => k, fun k => k, rfl, rfl, ⟨fun k hk => by omega, fun k hk => by omega, fun i j _ hj => by omega⟩, fun k hk => by omega, fun k hk => by omega, fun k hk => by omega, fun k hk => by omega⟩
  · refine s_sort h (by omega) ?_
    rintro sz' bt' nr' t' so' rz' ⟨sa, rk, hs, hso, hrz⟩
    refine s_measureAlike h hs hso hrz ?_
    intro ab' hab
    refine s_sumPieces h hs hso hab ?_
    intro pz' hpz
    exact hp _ _ _ _ _ _ _ _ _ _ ⟨sa, rk, rfl, rfl, hs, hso, hrz, hab, hpz⟩
