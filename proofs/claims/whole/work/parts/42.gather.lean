/-! what stands where: class -/
noncomputable def std (K : Nat → Nat) (N : Nat) (sk : Nat → Nat) (m p : Nat) : Bool := decide (1 ≤ m ∧ m ≤ lw K N sk m 0 p)
theorem std_mark {K ow cs sk : Nat → Nat} {n m p : Nat} (hd : DocOk K ow cs n) (hsk : ∀ i, i < m → 64 ≤ sk i ∧ sk i < 320) (hm : m ≤ 200) (hp : p < cs n) (hk : K p < 64) : std K (cs n) sk m p = false := by
  have a := lw_ex hd hsk hm (Nat.zero_le m) hp
  have b := (doc_len0 hd hp).mp hk
  unfold std
  simp only [decide_eq_false_iff_not]
  omega
/-- counting over places or over the text is one, where marks don't count -/
theorem cnt_cp {K ow cs dm : Nat → Nat} {n : Nat} {P : Nat → Bool} (hd : DocOk K ow cs n) (hm : DocM cs dm n) (hP : ∀ p, p < cs n → K p < 64 → P p = false) :
    ∀ x, x ≤ cs n - n → (x < cs n - n → cnt P (x + dm x) = cnt (fun y => P (y + dm y)) x) ∧ (x = cs n - n → cnt P (cs n) = cnt (fun y => P (y + dm y)) x) := by
  intro x
  induction x with
  | zero =>
    intro hx
    constructor
    · intro h
      have hn : 0 < n := by
        by_cases q : n = 0
        · rw [q, hd.1] at h; omega
        · omega
      have e : dm 0 = 0 := dm_uniq hd hm h hn (by rw [hd.1]; omega) (by have := hd.2.1 0 hn; have := hd.1; omega)
      rw [e]; rfl
    · intro h
      have hn : cs n = 0 := by
        by_cases q : n = 0
        · rw [q, hd.1]
        · have := doc_mono hd (show 0 ≤ n by omega) (Nat.le_refl n)
          omega
      rw [hn]; rfl
  | succ x ih =>
    intro hx
    have a := dm_at hd hm (show x < cs n - n by omega)
    have ih1 := (ih (by omega)).1 (by omega)
    have s1 : cnt P (x + dm x + 1) = cnt (fun y => P (y + dm y)) (x + 1) := by
      show cnt P (x + dm x) + _ = cnt (fun y => P (y + dm y)) x + _
      rw [ih1]
    have mark : x + dm x + 2 = cs (dm x + 1) → cnt P (x + dm x + 2) = cnt (fun y => P (y + dm y)) (x + 1) := by
      intro e
      have hm1 := doc_mono hd (show dm x + 1 ≤ n by omega) (Nat.le_refl n)
      have o := hd.2.2.1 (dm x) (x + dm x + 1) a.1 (by omega) (by omega)
      have k := o.2.1 (by omega)
      have h64 := hd.2.2.2.1
      have := hP (x + dm x + 1) (by omega) (by omega)
      show cnt P (x + dm x + 1) + (if P (x + dm x + 1) = true then 1 else 0) = _
      rw [this, s1]
      rfl
    by_cases q : x + dm x + 2 = cs (dm x + 1)
    · constructor
      · intro h
        have e2 : dm x + 1 < n := by
          by_cases g : dm x + 1 = n
          · rw [g] at q; omega
          · omega
        have e : dm (x + 1) = dm x + 1 := dm_uniq hd hm h e2 (by omega) (by have := hd.2.1 (dm x + 1) e2; omega)
        rw [e, show x + 1 + (dm x + 1) = x + dm x + 2 by omega]
        exact mark q
      · intro h
        have e2 : dm x + 1 = n := by
          by_cases g : dm x + 1 = n
          · exact g
          · have := doc_mono hd (show dm x + 1 ≤ n by omega) (Nat.le_refl n)
            omega
        rw [e2] at q
        have := mark (by rw [e2]; exact q)
        rw [q] at this
        exact this
    · have nx := dm_next hd hm (show x < cs n - n by omega) (show 1 < lenf ow cs (x + dm x) by omega)
      refine ⟨fun h => ?_, fun h => by omega⟩
      rw [nx.2.1, show x + 1 + dm x = x + dm x + 1 by omega]
      exact s1
theorem cnt_cpN {K ow cs dm : Nat → Nat} {n : Nat} {P : Nat → Bool} (hd : DocOk K ow cs n) (hm : DocM cs dm n) (hP : ∀ p, p < cs n → K p < 64 → P p = false) : cnt P (cs n) = cnt (fun y => P (y + dm y)) (cs n - n) := (cnt_cp hd hm hP _ (Nat.le_refl _)).2 rfl
theorem cnt_cpx {K ow cs dm : Nat → Nat} {n x : Nat} {P : Nat → Bool} (hd : DocOk K ow cs n) (hm : DocM cs dm n) (hP : ∀ p, p < cs n → K p < 64 → P p = false) (hx : x < cs n - n) : cnt P (x + dm x) = cnt (fun y => P (y + dm y)) x := (cnt_cp hd hm hP _ (Nat.le_of_lt hx)).1 hx
theorem cnt_cple {K ow cs dm : Nat → Nat} {n p : Nat} {P : Nat → Bool} (hd : DocOk K ow cs n) (hm : DocM cs dm n) (hP : ∀ p, p < cs n → K p < 64 → P p = false) (hp : p < cs n) (hk : 64 ≤ K p) : cnt P p < 16384 := by
  have a := dm_of hd hm hp hk
  have b := cnt_cpx hd hm hP a.1
  rw [a.2.1, show p - ow p + ow p = p by omega] at b
  have := cnt_le (fun y => P (y + dm y)) (p - ow p)
  have := doc_S hd
  omega
theorem s_lastRankFrom {ab : Nat → Int32} {K ow cs sk sa rk : Nat → Nat} {n m low : Nat} (hd : DocOk K ow cs n) (hs : SAok K (cs n) sa rk) (hab : ∀ r, r < cs n → ab r = nI (LL K (cs n) sa r)) (hsk : ∀ i, i < m → 64 ≤ sk i ∧ sk i < 320) (hm : m ≤ 200)
    (hlow : low < cs n) (hlm : m ≤ lw K (cs n) sk m 0 (sa low)) {post : Int32 → Prop} (hp : ∀ last, low ≤ last → last < cs n → (∀ r, low ≤ r → r < cs n → (r ≤ last ↔ m ≤ lw K (cs n) sk m 0 (sa r))) → post (nI last)) :
    vc_SE_lastRankFrom (nI low) (nI m) (nI (cs n)) ab post := by
  have hN := doc_N hd
  have key : ∀ f la, la + f + 1 = cs n → low ≤ la → (∀ r, low ≤ r → r ≤ la → m ≤ lw K (cs n) sk m 0 (sa r)) → vc_SE_lastRankFrom_2 (nI low) (nI m) (nI (cs n)) ab post (f + 1) (nI la) := by
    intro f
    induction f with
    | zero =>
      intro la hf hl hin
      rw [vc_SE_lastRankFrom_2]
      simp (disch := omega) only [li0, li1, li2, li3, li4, li5, li6, li7, li8, li16, li20, li24, li31, li63, li64, li65, li200, li255, li256, li320, li16384, li16448, li65535, li65536, nI_add, nI_subI, nI_mulI, nI_ltI, nI_leI, nI_eq, nI_clamp, vpI, nI_maxN, nI_minN, ls_nI, half_nI, nI_addneg]
      exact ⟨fun _ => hp la hl (by omega) (fun r r1 r2 => ⟨fun g => hin r r1 g, fun _ => by omega⟩), fun q => absurd (by omega) q⟩
    | succ f ih =>
      intro la hf hl hin
      have a := hs.1 la (by omega)
      have b := hs.1 (la + 1) (by omega)
      have hLb : LL K (cs n) sa (la + 1) < 16448 := by
        rw [LL_succ]
        have := lcp_at hd a.1 b.1 (fun e => by have := SA_inj hs (by omega) (by omega) e; omega)
        omega
      rw [vc_SE_lastRankFrom_2]
      simp (disch := omega) only [li0, li1, li2, li3, li4, li5, li6, li7, li8, li16, li20, li24, li31, li63, li64, li65, li200, li255, li256, li320, li16384, li16448, li65535, li65536, nI_add, nI_subI, nI_mulI, nI_ltI, nI_leI, nI_eq, nI_clamp, vpI, nI_maxN, nI_minN, ls_nI, half_nI, nI_addneg, hab]
      refine ⟨fun q => by omega, fun _ => ⟨by omega, fun q => hp la hl (by omega) (fun r r1 r2 => ⟨fun g => hin r r1 g, fun g => ?_⟩), fun q => ih (la + 1) (by omega) (by omega) (fun r r1 r2 => ?_)⟩⟩
      · by_cases c : r ≤ la
        · exact c
        · have x1 : XX K (cs n) (sa la) ≤ XX K (cs n) (sa (la + 1)) := Nat.le_of_lt (hs.2.2 la (la + 1) (by omega) (by omega))
          have x2 : XX K (cs n) (sa (la + 1)) ≤ XX K (cs n) (sa r) := by
            by_cases e : r = la + 1
            · rw [e]; exact Nat.le_refl _
            · exact Nat.le_of_lt (hs.2.2 (la + 1) r (by omega) r2)
          have md := lcp_mid hd x1 x2
          rw [← LL_succ] at md
          have t := lcF_tri (sy K (cs n) (sa la)) (pt sk m 0) (sy K (cs n) (sa r))
          rw [← lcp_lcF, lcF_comm (sy K (cs n) (sa la))] at t
          have e1 : lw K (cs n) sk m 0 (sa la) = lcF (pt sk m 0) (sy K (cs n) (sa la)) := rfl
          have e2 : lw K (cs n) sk m 0 (sa r) = lcF (pt sk m 0) (sy K (cs n) (sa r)) := rfl
          have := hin la hl (Nat.le_refl _)
          omega
      · by_cases c : r ≤ la
        · exact hin r r1 c
        · rw [show r = la + 1 by omega]
          have t := lcF_tri (pt sk m 0) (sy K (cs n) (sa la)) (sy K (cs n) (sa (la + 1)))
          rw [← lcp_lcF, ← LL_succ] at t
          have e1 : lw K (cs n) sk m 0 (sa la) = lcF (pt sk m 0) (sy K (cs n) (sa la)) := rfl
          have e2 : lw K (cs n) sk m 0 (sa (la + 1)) = lcF (pt sk m 0) (sy K (cs n) (sa (la + 1))) := rfl
          have := hin la hl (Nat.le_refl _)
          omega
  exact ⟨cs n - low - 1 + 1, key (cs n - low - 1) low (by omega) (Nat.le_refl _) (fun r r1 r2 => by rw [show r = low by omega]; exact hlm)⟩
/-- the keys, falling -/
def DK (zk : Nat → Int32) (dh : Nat) (V : Nat → Prop) : Prop :=
  ∃ ky : Nat → Nat, (∀ i, i < dh → zk i = nI (ky i)) ∧ (∀ i j, i < j → j < dh → ky j < ky i) ∧ (∀ v, (∃ i, i < dh ∧ ky i = v) ↔ V v)
theorem s_insert {d often dh : Nat} {zk : Nat → Int32} {V : Nat → Prop} (hd : d < 64) (ho : often < 20000) (hdh : dh < 64) (h : DK zk dh V) (hV : ∀ v, V v → v < 2000000) (hnew : ¬ V (often * 64 + (63 - d)))
    {post : Int32 → (Nat → Int32) → Prop} (hp : ∀ zk', DK zk' (dh + 1) (fun v => v = often * 64 + (63 - d) ∨ V v) → post (nI (dh + 1)) zk') :
    vc_SE_insertDocument (nI d) (nI often) post (nI dh) zk := by
  obtain ⟨ky, k1, k2, k3⟩ := h
  have kb : ∀ i, i < dh → ky i < 2000000 := fun i hi => hV _ ((k3 _).mp ⟨i, hi, rfl⟩)
  have kne : ∀ i, i < dh → ky i ≠ often * 64 + (63 - d) := fun i hi e => hnew ((k3 _).mp ⟨i, hi, e⟩)
  have fin : ∀ s z, s ≤ dh → (∀ i, i < s → z i = nI (ky i)) → (∀ i, s ≤ i → i < dh → z (i + 1) = nI (ky i)) → (∀ i, s ≤ i → i < dh → ky i < often * 64 + (63 - d)) → (0 < s → often * 64 + (63 - d) ≤ ky (s - 1)) →
      vc_SE_insertDocument_56 (nI d) (nI often) post (nI (often * 64 + (63 - d))) (nI s) (nI dh) z := by
    intro s z hs z1 z2 lt ge
    unfold vc_SE_insertDocument_56
    simp (disch := omega) only [li0, li1, li2, li3, li4, li5, li6, li7, li8, li16, li20, li24, li31, li63, li64, li65, li200, li255, li256, li320, li16384, li16448, li65535, li65536, nI_add, nI_subI, nI_mulI, nI_ltI, nI_leI, nI_eq, nI_clamp, vpI, nI_maxN, nI_minN, ls_nI, half_nI, nI_addneg]
    refine ⟨by omega, hp _ ⟨fun i => if i < s then ky i else if i = s then often * 64 + (63 - d) else ky (i - 1), fun i hi => ?_, fun i j hij hj => ?_, fun v => ⟨?_, ?_⟩⟩⟩
    · show _ = nI (if i < s then ky i else if i = s then often * 64 + (63 - d) else ky (i - 1))
      by_cases e : i < s
      · rw [upN (by omega), if_pos e]; exact z1 i e
      · by_cases e2 : i = s
        · rw [e2, upS, if_neg (by omega), if_pos rfl]
        · rw [upN e2, if_neg e, if_neg e2]
          have := z2 (i - 1) (by omega) (by omega)
          rw [show i - 1 + 1 = i by omega] at this
          exact this
    · show (if j < s then ky j else if j = s then _ else ky (j - 1)) < (if i < s then ky i else if i = s then _ else ky (i - 1))
      by_cases e : j < s
      · rw [if_pos e, if_pos (by omega)]; exact k2 i j hij (by omega)
      · rw [if_neg e]
        by_cases e2 : j = s
        · rw [if_pos e2, if_pos (by omega)]
          have g := ge (by omega)
          have g2 := kne (s - 1) (by omega)
          by_cases e3 : i = s - 1
          · rw [e3]; omega
          · have := k2 i (s - 1) (by omega) (by omega)
            omega
        · rw [if_neg e2]
          by_cases e3 : i < s
          · rw [if_pos e3]; exact k2 i (j - 1) (by omega) (by omega)
          · rw [if_neg e3]
            by_cases e4 : i = s
            · rw [if_pos e4]; exact lt (j - 1) (by omega) (by omega)
            · rw [if_neg e4]; exact k2 (i - 1) (j - 1) (by omega) (by omega)
    · rintro ⟨i, hi, e⟩
      by_cases e1 : i < s
      · simp only [e1, if_true] at e
        exact Or.inr ((k3 v).mp ⟨i, by omega, e⟩)
      · by_cases e2 : i = s
        · simp only [e2, Nat.lt_irrefl, if_false, if_true] at e
          exact Or.inl e.symm
        · simp only [e1, e2, if_false] at e
          exact Or.inr ((k3 v).mp ⟨i - 1, by omega, e⟩)
    · rintro (e | e)
      · refine ⟨s, by omega, ?_⟩
        simp only [Nat.lt_irrefl, if_false, if_true]
        exact e.symm
      · obtain ⟨i, hi, e⟩ := (k3 v).mpr e
        by_cases e1 : i < s
        · refine ⟨i, by omega, ?_⟩
          simp only [e1, if_true]
          exact e
        · refine ⟨i + 1, by omega, ?_⟩
          have n1 : ¬ i + 1 < s := by omega
          have n2 : ¬ i + 1 = s := by omega
          simp only [n1, n2, if_false, Nat.add_sub_cancel]
          exact e
  have key : ∀ s z, s ≤ dh → (∀ i, i < s → z i = nI (ky i)) → (∀ i, s ≤ i → i < dh → z (i + 1) = nI (ky i)) → (∀ i, s ≤ i → i < dh → ky i < often * 64 + (63 - d)) →
      vc_SE_insertDocument_16 (nI d) (nI often) post (s + 1) (nI (often * 64 + (63 - d))) (nI s) (nI dh) z := by
    intro s
    induction s with
    | zero =>
      intro z hs z1 z2 lt
      rw [vc_SE_insertDocument_16]
      simp (disch := omega) only [li0, li1, li2, li3, li4, li5, li6, li7, li8, li16, li20, li24, li31, li63, li64, li65, li200, li255, li256, li320, li16384, li16448, li65535, li65536, nI_add, nI_subI, nI_mulI, nI_ltI, nI_leI, nI_eq, nI_clamp, vpI, nI_maxN, nI_minN, ls_nI, half_nI, nI_addneg]
      exact ⟨fun _ => fin 0 z hs z1 z2 lt (fun q => by omega), fun q => absurd (by omega) q⟩
    | succ s ih =>
      intro z hs z1 z2 lt
      have b := kb s (by omega)
      rw [vc_SE_insertDocument_16]
      simp (disch := omega) only [li0, li1, li2, li3, li4, li5, li6, li7, li8, li16, li20, li24, li31, li63, li64, li65, li200, li255, li256, li320, li16384, li16448, li65535, li65536, nI_add, nI_subI, nI_mulI, nI_ltI, nI_leI, nI_eq, nI_clamp, vpI, nI_maxN, nI_minN, ls_nI, half_nI, nI_addneg, Nat.add_sub_cancel, z1]
      refine ⟨fun q => by omega, fun _ => ⟨by omega, fun q => fin (s + 1) z hs z1 z2 lt (fun _ => q), fun q => ⟨by omega, by omega, ih _ (by omega) (fun i hi => ?_) (fun i h1 h2 => ?_) (fun i h1 h2 => ?_)⟩⟩⟩
      · rw [upN (by omega)]; exact z1 i (by omega)
      · by_cases e : i = s
        · rw [e, upS]
        · rw [upN (by omega)]; exact z2 i (by omega) h2
      · by_cases e : i = s
        · rw [e]; omega
        · exact lt i (by omega) h2
  unfold vc_SE_insertDocument
  simp (disch := omega) only [li0, li1, li2, li3, li4, li5, li6, li7, li8, li16, li20, li24, li31, li63, li64, li65, li200, li255, li256, li320, li16384, li16448, li65535, li65536, nI_add, nI_subI, nI_mulI, nI_ltI, nI_leI, nI_eq, nI_clamp, vpI, nI_maxN, nI_minN, ls_nI, half_nI, nI_addneg]
  exact ⟨dh + 1, key dh zk (Nat.le_refl _) k1 (fun i h1 h2 => by omega) (fun i h1 h2 => by omega)⟩
/-- how often in a document -/
noncomputable def oft (K cs sk : Nat → Nat) (N m d : Nat) : Nat := cnt (std K N sk m) (cs (d + 1)) - cnt (std K N sk m) (cs d)
noncomputable def okey (K cs sk : Nat → Nat) (N m d : Nat) : Nat := oft K cs sk N m d * 64 + (63 - d)
/-- hits, and the documents hit -/
def HitC (hits dh : Int32) (wheres zk : Nat → Int32) (K ow cs sk : Nat → Nat) (n m : Nat) : Prop :=
  hits = nI (cnt (std K (cs n) sk m) (cs n)) ∧ (∀ p, p < cs n → std K (cs n) sk m p = true → wheres (cnt (std K (cs n) sk m) p) = nI (ow p * 65536 + p - cs (ow p))) ∧
  ∃ dn, dh = nI dn ∧ dn ≤ n ∧ DK zk dn (fun v => ∃ d, d < n ∧ 0 < oft K cs sk (cs n) m d ∧ v = okey K cs sk (cs n) m d)
theorem s_gather {rz starts text owners : Nat → Int32} {K ow cs dm sk sa rk : Nat → Nat} {n m low last : Nat} (h : LibC text owners starts K ow cs n) (hm' : DocM cs dm n) (hs : SAok K (cs n) sa rk) (hrz : ∀ p, p < cs n → rz p = nI (rk p))
    (hsk : ∀ i, i < m → 64 ≤ sk i ∧ sk i < 320) (hm : m ≤ 200) (hlow : low < 16448) (hlast : last < 16448) (hst : ∀ p, p < cs n → (std K (cs n) sk m p = true ↔ low ≤ rk p ∧ rk p ≤ last))
    {wh zk : Nat → Int32} {post : Int32 → Int32 → (Nat → Int32) → (Nat → Int32) → Prop} (hp : ∀ hits dh wh' zk', HitC hits dh wh' zk' K ow cs sk n m → post hits dh wh' zk') :
    vc_SE_gather (nI low) (nI last) (nI n) starts rz post (nI 0) (nI 0) wh zk := by
  obtain ⟨hd, htx, hown, hsta⟩ := h
  have hN := doc_N hd
  have h64 := hd.2.2.2.1
  have hmk : ∀ p, p < cs n → K p < 64 → std K (cs n) sk m p = false := fun p hp hk => std_mark hd hsk hm hp hk
  have hcb : ∀ p, cnt (std K (cs n) sk m) p ≤ p := cnt_le _
  have key2 : ∀ f d, d + f = n → ∀ dn wh zk, dn ≤ d → (∀ p, p < cs d → std K (cs n) sk m p = true → wh (cnt (std K (cs n) sk m) p) = nI (ow p * 65536 + p - cs (ow p))) →
      DK zk dn (fun v => ∃ e, e < d ∧ 0 < oft K cs sk (cs n) m e ∧ v = okey K cs sk (cs n) m e) →
      vc_SE_gather_2 (nI low) (nI last) (nI n) starts rz post (f + 1) (nI d) (nI (cnt (std K (cs n) sk m) (cs d))) (nI dn) wh zk := by
    intro f
    induction f with
    | zero =>
      intro d hf dn wh zk hdn hwh hdk
      have e : d = n := by omega
      subst e
      rw [vc_SE_gather_2]
      simp (disch := omega) only [li0, li1, li2, li3, li4, li5, li6, li7, li8, li16, li20, li24, li31, li63, li64, li65, li200, li255, li256, li320, li16384, li16448, li65535, li65536, nI_add, nI_subI, nI_mulI, nI_ltI, nI_leI, nI_eq, nI_clamp, vpI, nI_maxN, nI_minN, ls_nI, half_nI, nI_addneg]
      exact ⟨fun _ => hp _ _ _ _ ⟨rfl, hwh, dn, rfl, hdn, hdk⟩, fun q => absurd (by omega) q⟩
    | succ f ih =>
      intro d hf dn wh zk hdn hwh hdk
      have dlt : d < n := by omega
      have c2 := hd.2.1 d dlt
      have c3 := doc_mono hd (show d + 1 ≤ n by omega) (Nat.le_refl n)
      have hmkd := hd.2.2.1 d (cs (d + 1) - 1) dlt (by omega) (by omega)
      have hcend : cnt (std K (cs n) sk m) (cs (d + 1)) = cnt (std K (cs n) sk m) (cs (d + 1) - 1) := by
        have e : cs (d + 1) = cs (d + 1) - 1 + 1 := by omega
        have kk := hmkd.2.1 (by omega)
        have : cnt (std K (cs n) sk m) (cs (d + 1) - 1 + 1) = cnt (std K (cs n) sk m) (cs (d + 1) - 1) + (if std K (cs n) sk m (cs (d + 1) - 1) = true then 1 else 0) := rfl
        rw [hmk _ (by omega) (by omega)] at this
        rw [← e] at this
        exact this
      have key44 : ∀ g p, p + g + 1 = cs (d + 1) → cs d ≤ p → ∀ wh, (∀ q, q < p → std K (cs n) sk m q = true → wh (cnt (std K (cs n) sk m) q) = nI (ow q * 65536 + q - cs (ow q))) →
          vc_SE_gather_44 (nI low) (nI last) (nI n) starts rz post (fun x3' z_hits' z_documentsHit' z_wheres' z_documentKeys' => vc_SE_gather_2 (nI low) (nI last) (nI n) starts rz post (f + 1) x3' z_hits' z_documentsHit' z_wheres' z_documentKeys') (g + 1) (nI d) (nI (cnt (std K (cs n) sk m) (cs d))) (nI (cs d)) (nI (cs (d + 1) - 1)) (nI p) (nI (cnt (std K (cs n) sk m) p)) (nI dn) wh zk := by
        intro g
        induction g with
        | zero =>
          intro p hg hpd wh hwh
          have ep : p = cs (d + 1) - 1 := by omega
          have b1 := hcb p
          have b2 := hcb (cs d)
          have mono := cnt_step (std K (cs n) sk m) hpd
          have eoft : oft K cs sk (cs n) m d = cnt (std K (cs n) sk m) p - cnt (std K (cs n) sk m) (cs d) := by
            unfold oft; rw [hcend, ep]
          rw [vc_SE_gather_44]
          unfold vc_SE_gather_131
          simp (disch := omega) only [li0, li1, li2, li3, li4, li5, li6, li7, li8, li16, li20, li24, li31, li63, li64, li65, li200, li255, li256, li320, li16384, li16448, li65535, li65536, nI_add, nI_subI, nI_mulI, nI_ltI, nI_leI, nI_eq, nI_clamp, vpI, nI_maxN, nI_minN, ls_nI, half_nI, nI_addneg]
          have hwh' : ∀ q, q < cs (d + 1) → std K (cs n) sk m q = true → wh (cnt (std K (cs n) sk m) q) = nI (ow q * 65536 + q - cs (ow q)) := by
            intro q hq hs
            by_cases e : q < p
            · exact hwh q e hs
            · have e2 : q = cs (d + 1) - 1 := by omega
              rw [e2, hmk _ (by omega) (by have := hmkd.2.1 (by omega); omega)] at hs
              exact absurd hs (by simp)
          refine ⟨fun _ => ⟨fun q => ?_, fun q => ?_⟩, fun q => absurd (by omega) q⟩
          · have := ih (d + 1) (by omega) dn wh zk (by omega) hwh' ?_
            · rw [hcend, ← ep] at this
              exact this
            · obtain ⟨ky, k1, k2, k3⟩ := hdk
              refine ⟨ky, k1, k2, fun v => (k3 v).trans ⟨?_, ?_⟩⟩
              · rintro ⟨e, e1, e2, e3⟩
                exact ⟨e, by omega, e2, e3⟩
              · rintro ⟨e, e1, e2, e3⟩
                refine ⟨e, ?_, e2, e3⟩
                by_cases c : e = d
                · rw [c] at e2; omega
                · omega
          · refine s_insert (by omega) (by omega) (by omega) hdk ?_ ?_ ?_
            · rintro v ⟨e, e1, e2, e3⟩
              rw [e3]
              unfold okey oft
              have := hcb (cs (e + 1))
              have := doc_mono hd (show e + 1 ≤ n by omega) (Nat.le_refl n)
              omega
            · rintro ⟨e, e1, e2, e3⟩
              unfold okey at e3
              omega
            · intro zk' hdk'
              have := ih (d + 1) (by omega) (dn + 1) wh zk' (by omega) hwh' ?_
              · rw [hcend, ← ep] at this
                exact this
              · obtain ⟨ky, k1, k2, k3⟩ := hdk'
                refine ⟨ky, k1, k2, fun v => (k3 v).trans ⟨?_, ?_⟩⟩
                · rintro (e | ⟨e, e1, e2, e3⟩)
                  · refine ⟨d, by omega, by omega, ?_⟩
                    unfold okey
                    rw [eoft]; exact e
                  · exact ⟨e, by omega, e2, e3⟩
                · rintro ⟨e, e1, e2, e3⟩
                  by_cases c : e = d
                  · refine Or.inl ?_
                    rw [e3, c]
                    unfold okey
                    rw [eoft]
                  · exact Or.inr ⟨e, by omega, e2, e3⟩
        | succ g ih2 =>
          intro p hg hpd wh hwh
          have plt : p < cs n := by omega
          have op : ow p = d := doc_own hd dlt hpd (by omega)
          have b1 := hcb p
          have hr := hs.2.1 p plt
          have kp := (hd.2.2.1 d p dlt hpd (by omega)).2.2 (by omega)
          have hc := cnt_cple hd hm' hmk plt kp.1
          have hst' := hst p plt
          have no : ¬ (low ≤ rk p ∧ rk p ≤ last) → cnt (std K (cs n) sk m) p = cnt (std K (cs n) sk m) (p + 1) ∧ (∀ q, q < p + 1 → std K (cs n) sk m q = true → wh (cnt (std K (cs n) sk m) q) = nI (ow q * 65536 + q - cs (ow q))) := by
            intro g
            have ns : ¬ std K (cs n) sk m p = true := fun e => g (hst'.mp e)
            constructor
            · show _ = cnt (std K (cs n) sk m) p + (if std K (cs n) sk m p = true then 1 else 0)
              rw [if_neg ns]; rfl
            · intro q hq hsq
              by_cases e : q = p
              · rw [e] at hsq; exact absurd hsq ns
              · exact hwh q (by omega) hsq
          rw [vc_SE_gather_44]
          unfold vc_SE_gather_104
          simp (disch := omega) only [li0, li1, li2, li3, li4, li5, li6, li7, li8, li16, li20, li24, li31, li63, li64, li65, li200, li255, li256, li320, li16384, li16448, li65535, li65536, nI_add, nI_subI, nI_mulI, nI_ltI, nI_leI, nI_eq, nI_clamp, vpI, nI_maxN, nI_minN, ls_nI, half_nI, nI_addneg, hrz]
          refine ⟨fun q => by omega, fun _ => ⟨by omega, fun q => ?_, fun q => ⟨fun q2 => ?_, fun q2 => ⟨by omega, ?_⟩⟩⟩⟩
          · have nn := no (by omega)
            rw [nn.1]
            exact ih2 (p + 1) (by omega) (by omega) wh nn.2
          · have nn := no (by omega)
            rw [nn.1]
            exact ih2 (p + 1) (by omega) (by omega) wh nn.2
          · have ys := hst'.mpr ⟨by omega, by omega⟩
            have e1 : cnt (std K (cs n) sk m) p + 1 = cnt (std K (cs n) sk m) (p + 1) := by
              show _ = cnt (std K (cs n) sk m) p + (if std K (cs n) sk m p = true then 1 else 0)
              rw [if_pos ys]
            rw [e1]
            refine ih2 (p + 1) (by omega) (by omega) _ (fun q hq hsq => ?_)
            by_cases e : q = p
            · rw [e, upS, op]
            · have := cnt_slt (show q < p by omega) hsq
              rw [upN (by omega)]
              exact hwh q (by omega) hsq
      rw [vc_SE_gather_2]
      unfold vc_LB_endOf
      simp (disch := omega) only [li0, li1, li2, li3, li4, li5, li6, li7, li8, li16, li20, li24, li31, li63, li64, li65, li200, li255, li256, li320, li16384, li16448, li65535, li65536, nI_add, nI_subI, nI_mulI, nI_ltI, nI_leI, nI_eq, nI_clamp, vpI, nI_maxN, nI_minN, ls_nI, half_nI, nI_addneg, hsta]
      exact ⟨fun q => by omega, fun _ => ⟨by omega, by omega, cs (d + 1) - 1 - cs d + 1, key44 (cs (d + 1) - 1 - cs d) (cs d) (by omega) (Nat.le_refl _) wh hwh⟩⟩
  have := key2 n 0 (by omega) 0 wh zk (Nat.le_refl _) (fun p hp => by rw [hd.1] at hp; omega) ⟨fun _ => 0, fun i hi => by omega, fun i j _ hj => by omega, fun v => ⟨fun ⟨i, hi, _⟩ => by omega, fun ⟨e, he, _⟩ => by omega⟩⟩
  rw [hd.1] at this
  exact ⟨n + 1, this⟩
