/-! phrases -/
/-- the longest earlier, the last of them: its length, and its place and one (0: none), of c0 .. c0 + k - 1 -/
noncomputable def eb (K : Nat → Nat) (N p c0 : Nat) : Nat → Nat
  | 0 => 0
  | k + 1 => if lcp K N (c0 + k) p = 0 ∨ lcp K N (c0 + k) p < eb K N p c0 k then eb K N p c0 k else lcp K N (c0 + k) p
noncomputable def ep (K : Nat → Nat) (N p c0 : Nat) : Nat → Nat
  | 0 => 0
  | k + 1 => if lcp K N (c0 + k) p = 0 ∨ lcp K N (c0 + k) p < eb K N p c0 k then ep K N p c0 k else c0 + k + 1
def Best (K : Nat → Nat) (N p lo hi : Nat) (V : Nat → Prop) (el e : Nat) : Prop :=
  (el = 0 ∧ e = 0 ∧ ∀ c, V c → lo ≤ c → c < hi → lcp K N c p = 0) ∨
  (0 < el ∧ ∃ c, e = c + 1 ∧ V c ∧ lo ≤ c ∧ c < hi ∧ lcp K N c p = el ∧ ∀ c', V c' → lo ≤ c' → c' < hi → lcp K N c' p < el ∨ (lcp K N c' p = el ∧ c' ≤ c))
theorem eb_best (K : Nat → Nat) (N p c0 : Nat) : ∀ k, Best K N p c0 (c0 + k) (fun _ => True) (eb K N p c0 k) (ep K N p c0 k) := by
  intro k
  induction k with
  | zero => exact Or.inl ⟨rfl, rfl, fun c _ h1 h2 => by omega⟩
  | succ k ih =>
    simp only [eb, ep]
    by_cases q : lcp K N (c0 + k) p = 0 ∨ lcp K N (c0 + k) p < eb K N p c0 k
    · rw [if_pos q, if_pos q]
      rcases ih with ⟨a, b, c⟩ | ⟨a, c, d1, d2, d3, d4, d5, d6⟩
      · refine Or.inl ⟨a, b, fun x _ h1 h2 => ?_⟩
        by_cases e : x = c0 + k
        · rw [e]; omega
        · exact c x trivial h1 (by omega)
      · refine Or.inr ⟨a, c, d1, trivial, d3, by omega, d5, fun x _ h1 h2 => ?_⟩
        by_cases e : x = c0 + k
        · rw [e]; omega
        · exact d6 x trivial h1 (by omega)
    · rw [if_neg q, if_neg q]
      refine Or.inr ⟨by omega, c0 + k, rfl, trivial, by omega, by omega, rfl, fun x _ h1 h2 => ?_⟩
      by_cases e : x = c0 + k
      · rw [e]; omega
      · rcases ih with ⟨a, b, c⟩ | ⟨a, c, d1, d2, d3, d4, d5, d6⟩
        · have := c x trivial h1 (by omega); omega
        · have := d6 x trivial h1 (by omega); omega
theorem best_uniq {K : Nat → Nat} {N p lo hi el e el' e' : Nat} {V V' : Nat → Prop} (h : Best K N p lo hi V el e) (h' : Best K N p lo hi V' el' e') (hV : ∀ c, lo ≤ c → c < hi → V c) (hV' : ∀ c, lo ≤ c → c < hi → V' c) : el = el' ∧ e = e' := by
  rcases h with ⟨a, b, c⟩ | ⟨a, c, d1, d2, d3, d4, d5, d6⟩ <;> rcases h' with ⟨a', b', c'⟩ | ⟨a', c', d1', d2', d3', d4', d5', d6'⟩
  · omega
  · have := c c' (hV c' d3' d4') d3' d4'
    omega
  · have := c' c (hV' c d3 d4) d3 d4
    omega
  · have x1 := d6 c' (hV c' d3' d4') d3' d4'
    have x2 := d6' c (hV' c d3 d4) d3 d4
    omega
theorem best_grow {K : Nat → Nat} {N p lo hi el e : Nat} {V V' : Nat → Prop} (h : Best K N p lo hi V el e) (hV : ∀ c, lo ≤ c → c < hi → V c → V' c) (hn : ∀ c, lo ≤ c → c < hi → V' c → ¬ V c → lcp K N c p = 0 ∨ lcp K N c p < el) : Best K N p lo hi V' el e := by
  rcases h with ⟨a, b, c⟩ | ⟨a, c, d1, d2, d3, d4, d5, d6⟩
  · refine Or.inl ⟨a, b, fun x hx h1 h2 => ?_⟩
    by_cases q : V x
    · exact c x q h1 h2
    · have := hn x h1 h2 hx q
      omega
  · refine Or.inr ⟨a, c, d1, hV c d3 d4 d2, d3, d4, d5, fun x hx h1 h2 => ?_⟩
    by_cases q : V x
    · exact d6 x q h1 h2
    · have := hn x h1 h2 hx q
      omega
/-- one more candidate -/
theorem best_add {K : Nat → Nat} {N p lo hi el e c : Nat} {V : Nat → Prop} (h : Best K N p lo hi V el e) (hge : el ≤ lcp K N c p) (hpos : 0 < lcp K N c p) (hnV : ¬ V c) (h1 : lo ≤ c) (h2 : c < hi) :
    Best K N p lo hi (fun x => x = c ∨ V x) (if el < lcp K N c p ∨ e < c + 1 then lcp K N c p else el) (if el < lcp K N c p ∨ e < c + 1 then c + 1 else e) := by
  by_cases q : el < lcp K N c p ∨ e < c + 1
  · rw [if_pos q, if_pos q]
    refine Or.inr ⟨hpos, c, rfl, Or.inl rfl, h1, h2, rfl, fun x hx y1 y2 => ?_⟩
    rcases hx with hx | hx
    · rw [hx]; omega
    · rcases h with ⟨a, b, z⟩ | ⟨a, c', d1, d2, d3, d4, d5, d6⟩
      · have := z x hx y1 y2; omega
      · have := d6 x hx y1 y2; omega
  · rw [if_neg q, if_neg q]
    rcases h with ⟨a, b, z⟩ | ⟨a, c', d1, d2, d3, d4, d5, d6⟩
    · omega
    · refine Or.inr ⟨a, c', d1, Or.inr d2, d3, d4, d5, fun x hx y1 y2 => ?_⟩
      rcases hx with hx | hx
      · rw [hx]; omega
      · exact d6 x hx y1 y2
theorem s_keepEarlier {K : Nat → Nat} {N p lo el e c : Nat} {V : Nat → Prop} (h : Best K N p lo p V el e) (hb : c < 20000 ∧ lo < 20000 ∧ p < 20000 ∧ lcp K N c p < 20000) (hge : el ≤ lcp K N c p) (hpos : 0 < lcp K N c p) (hnV : ¬ V c)
    {post : Int32 → Int32 → Prop} (hp : ∀ el' e', Best K N p lo p (fun x => x = c ∨ V x) el' e' → el' ≤ lcp K N c p → post (nI el') (nI e' - nI 1)) :
    vc_PB_keepEarlier (nI c) (nI (lcp K N c p)) (nI lo) (nI p) post (nI el) (nI e - nI 1) := by
  have eb20 : e < 20001 := by
    rcases h with ⟨a, b, z⟩ | ⟨a, c', d1, d2, d3, d4, d5, d6⟩
    · omega
    · omega
  have out : ¬ (lo ≤ c ∧ c < p) → post (nI el) (nI e - nI 1) := by
    intro g
    refine hp el e (best_grow h (fun x _ _ hx => Or.inr hx) (fun x h1 h2 hx hnx => ?_)) hge
    rcases hx with hx | hx
    · rw [hx] at h1 h2
      exact absurd ⟨h1, h2⟩ g
    · exact absurd hx hnx
  unfold vc_PB_keepEarlier vc_PB_keepEarlier_28
  rw [nI_ltI (by omega) (by omega), nI_ltI (a := c) (b := p) (by omega) (by omega), nI_ltI (a := el) (by omega) (by omega)]
  refine ⟨fun q => out (by omega), fun q => ⟨fun q2 => ?_, fun q2 => out (by omega)⟩⟩
  have ad := best_add h hge hpos hnV (by omega) q2
  have up : (el < lcp K N c p ∨ e < c + 1) → post (nI (lcp K N c p)) (nI c) := by
    intro g
    rw [if_pos g, if_pos g] at ad
    have := hp _ _ ad (Nat.le_refl _)
    rw [nI_subI (by omega), Nat.add_sub_cancel] at this
    exact this
  refine ⟨fun g => up (Or.inl g), fun g => ?_⟩
  have ele : nI c ≤ nI e - nI 1 ↔ c + 1 ≤ e := by
    rw [Int32.le_iff_toInt_le, nI_toInt (by omega), pk_sub_toInt (by omega) (by omega)]
    omega
  rw [ele]
  refine ⟨fun g2 => ?_, fun g2 => up (Or.inr (by omega))⟩
  rw [if_neg (by omega), if_neg (by omega)] at ad
  exact hp _ _ ad hge
/-- down or up the ranks -/
theorem s_walkDown {so rz ab : Nat → Int32} {K ow cs sa rk : Nat → Nat} {n lo p : Nat} (hd : DocOk K ow cs n) (hs : SAok K (cs n) sa rk) (hso : ∀ k, k < cs n → so k = nI (sa k)) (hrz : ∀ p, p < cs n → rz p = nI (rk p)) (hab : ∀ r, r < cs n → ab r = nI (LL K (cs n) sa r))
    (hp : p < cs n) (hlo : lo ≤ p) (hn1 : 1 ≤ n) (hr : n ≤ rk p) (hnm : ∀ c, lo ≤ c → c < p → n ≤ rk c) {post : Int32 → Int32 → Prop}
    (hpost : ∀ el e, Best K (cs n) p lo p (fun c => rk c < rk p) el e → el < 20000 → post (nI el) (nI e - nI 1)) :
    vc_PB_walkFrom (nI p) (-1) (nI lo) (nI n) (nI (cs n)) so rz ab post (nI 0) (-1) := by
  have hN := doc_N hd
  have h64 := hd.2.2.2.1
  have r0 := hs.2.1 p hp
  unfold vc_PB_walkFrom
  rw [nI_clamp (by omega), hrz p hp, li1, nI_addneg (by omega)]
  refine ⟨(vpI (by omega)).mpr (by omega), rk p - 1 + 1, ?_⟩
  have key : ∀ i al el e, i < rk p → n ≤ i + 1 → (al = 16384 ∧ i + 1 = rk p ∨ i + 1 < rk p ∧ al = lcp K (cs n) (sa (i + 1)) p) → el ≤ al → Best K (cs n) p lo p (fun c => i < rk c ∧ rk c < rk p) el e →
      vc_PB_walkFrom_18 (nI p) (-nI 1) (nI lo) (nI n) (nI (cs n)) so rz ab post (i + 1) (nI al) (nI i) (nI el) (nI e - nI 1) := by
    intro i
    induction i with
    | zero =>
      intro al el e h1 h2 h3 h4 h5
      have n1 : n = 1 := by omega
      rw [vc_PB_walkFrom_18, nI_ltI (by omega) (by omega)]
      have alb : al < 20000 := by
        rcases h3 with ⟨a, _⟩ | ⟨a, b⟩
        · omega
        · have s1 := hs.1 (0 + 1) (by omega)
          have := lcp_at hd s1.1 hp (fun e => by have := s1.2; rw [e] at this; omega)
          rw [b]; omega
      refine ⟨fun _ => hpost el e (best_grow h5 (fun c _ _ hc => hc.2) (fun c c1 c2 hc hnc => ?_)) (by omega), fun q => absurd (by omega) q⟩
      have := hnm c c1 c2
      exact absurd ⟨by omega, hc⟩ hnc
    | succ i ih =>
      intro al el e h1 h2 h3 h4 h5
      have alb : al < 20000 := by
        rcases h3 with ⟨a, _⟩ | ⟨a, b⟩
        · omega
        · have s1 := hs.1 (i + 1 + 1) (by omega)
          have := lcp_at hd s1.1 hp (fun e => by have := s1.2; rw [e] at this; omega)
          rw [b]; omega
      rw [vc_PB_walkFrom_18, nI_ltI (by omega) (by omega), nI_leI (by omega) (by omega)]
      refine ⟨fun q => hpost el e (best_grow h5 (fun c _ _ hc => hc.2) (fun c c1 c2 hc hnc => ?_)) (by omega), fun q => ⟨fun q2 => by omega, fun _ => ?_⟩⟩
      · have := hnm c c1 c2
        exact absurd ⟨by omega, hc⟩ hnc
      · have s1 := hs.1 (i + 1) (by omega)
        have hne : sa (i + 1) ≠ p := fun e => by have := s1.2; rw [e] at this; omega
        have ex1 : nI (i + 1) - -nI 1 = nI (i + 2) := by
          rw [Int32.sub_eq_add_neg, Int32.neg_neg, nI_add]
        have ex2 : (if nI (i + 1) < nI (i + 2) then nI (i + 2) else nI (i + 1)) = nI (i + 2) := if_pos ((nI_ltI (by omega) (by omega)).mpr (by omega))
        have lb := LL_lt hd hs (show i + 2 < cs n by omega)
        -- what is alike now
        have eal : min al (LL K (cs n) sa (i + 2)) = lcp K (cs n) (sa (i + 1)) p := by
          rcases h3 with ⟨a, b⟩ | ⟨a, b⟩
          · have e2 : sa (i + 2) = p := by rw [show i + 2 = rk p by omega, r0.2]
            rw [LL_succ, e2, a]
            have := (lcp_len hd s1.1 hp hne).2
            have := (lenf_le hd hp).2
            omega
          · have st := SA_lcp_step' hd hs (show i + 1 + 1 < rk p by omega) r0.1
            rw [r0.2] at st
            rw [b, st, Nat.min_comm]
        have lcb := lcp_at hd s1.1 hp hne
        rw [ex1, ex2, nI_clamp (by omega), hab _ (by omega), nI_minI (by omega) (by omega), eal, nI_clamp (by omega), hso _ (by omega)]
        refine ⟨(vpI (by omega)).mpr (by omega), ?_⟩
        unfold vc_PB_isTooShort vc_PB_isTooShort_12
        rw [li0, nI_eq (by omega) (by omega), nI_leI (by omega) (by omega)]
        -- all further down have no more
        have far : ∀ c, lo ≤ c → c < p → rk c < rk p → ¬ (i + 1 < rk c ∧ rk c < rk p) → lcp K (cs n) c p ≤ lcp K (cs n) (sa (i + 1)) p := by
          intro c c1 c2 c3 c4
          have rc := hs.2.1 c (by omega)
          by_cases g : rk c = i + 1
          · rw [← g, rc.2]; exact Nat.le_refl _
          · have x1 : XX K (cs n) c ≤ XX K (cs n) (sa (i + 1)) := Nat.le_of_lt ((SA_lt hs (by omega) s1.1).mpr (by rw [s1.2]; omega))
            have x2 : XX K (cs n) (sa (i + 1)) ≤ XX K (cs n) p := Nat.le_of_lt ((SA_lt hs s1.1 hp).mpr (by rw [s1.2]; omega))
            rw [lcp_mid hd x1 x2]
            exact Nat.min_le_right _ _
        have stop : (lcp K (cs n) (sa (i + 1)) p = 0 ∨ lcp K (cs n) (sa (i + 1)) p < el) → post (nI el) (nI e - nI 1) := by
          intro g
          refine hpost el e (best_grow h5 (fun c _ _ hc => hc.2) (fun c c1 c2 hc hnc => ?_)) (by omega)
          have := far c c1 c2 hc hnc
          omega
        refine ⟨fun g => ⟨fun e => absurd e (by decide), fun _ => stop (Or.inl g)⟩, fun g => ⟨fun g2 => ⟨fun _ => ⟨(vpI (by omega)).mpr (by omega), ?_⟩, fun e => absurd rfl e⟩, fun g2 => ⟨fun e => absurd e (by decide), fun _ => stop (Or.inr (by omega))⟩⟩⟩
        refine s_keepEarlier h5 ⟨by omega, by omega, by omega, by omega⟩ g2 (by omega) (fun c => by rw [s1.2] at c; omega) (fun el' e' hb' hle => ?_)
        rw [nI_addneg (by omega), Nat.add_sub_cancel]
        refine ih _ el' e' (by omega) (by omega) (Or.inr ⟨by omega, rfl⟩) hle ?_
        refine best_grow hb' (fun c c1 c2 hc => ?_) (fun c c1 c2 hc hnc => ?_)
        · rcases hc with hc | hc
          · rw [hc, s1.2]; omega
          · omega
        · refine absurd ?_ hnc
          by_cases c5 : rk c = i + 1
          · refine Or.inl ?_
            rw [← c5, (hs.2.1 c (by omega)).2]
          · exact Or.inr ⟨by omega, hc.2⟩
  have := key (rk p - 1) 16384 0 0 (by omega) (by omega) (Or.inl ⟨rfl, by omega⟩) (by omega) (Or.inl ⟨rfl, rfl, fun c hc _ _ => by omega⟩)
  rw [neg1]
  rw [neg1] at this
  exact this
theorem s_walkUp {so rz ab : Nat → Int32} {K ow cs sa rk : Nat → Nat} {n lo p el0 e0 : Nat} (hd : DocOk K ow cs n) (hs : SAok K (cs n) sa rk) (hso : ∀ k, k < cs n → so k = nI (sa k)) (hrz : ∀ p, p < cs n → rz p = nI (rk p)) (hab : ∀ r, r < cs n → ab r = nI (LL K (cs n) sa r))
    (hp : p < cs n) (hlo : lo ≤ p) (hr : n ≤ rk p) (h0 : Best K (cs n) p lo p (fun c => rk c < rk p) el0 e0) (hel : el0 < 20000) {post : Int32 → Int32 → Prop}
    (hpost : ∀ el e, Best K (cs n) p lo p (fun c => rk c ≠ rk p) el e → el < 20000 → post (nI el) (nI e - nI 1)) :
    vc_PB_walkFrom (nI p) 1 (nI lo) (nI n) (nI (cs n)) so rz ab post (nI el0) (nI e0 - nI 1) := by
  have hN := doc_N hd
  have h64 := hd.2.2.2.1
  have r0 := hs.2.1 p hp
  unfold vc_PB_walkFrom
  rw [nI_clamp (by omega), hrz p hp, nI_1]
  refine ⟨(vpI (by omega)).mpr (by omega), cs n - (rk p + 1) + 1, ?_⟩
  have key : ∀ f i al el e, i + f = cs n → rk p < i → (al = 16384 ∧ i = rk p + 1 ∨ rk p + 1 < i ∧ al = lcp K (cs n) (sa (i - 1)) p) → el < 20000 → Best K (cs n) p lo p (fun c => rk c < i ∧ rk c ≠ rk p) el e →
      vc_PB_walkFrom_18 (nI p) (nI 1) (nI lo) (nI n) (nI (cs n)) so rz ab post (f + 1) (nI al) (nI i) (nI el) (nI e - nI 1) := by
    intro f
    induction f with
    | zero =>
      intro i al el e h1 h2 h3 h4 h5
      rw [vc_PB_walkFrom_18, nI_ltI (by omega) (by omega), nI_leI (by omega) (by omega)]
      refine ⟨fun q => by omega, fun _ => ⟨fun _ => hpost el e (best_grow h5 (fun c _ _ hc => hc.2) (fun c c1 c2 hc hnc => ?_)) h4, fun q => absurd (by omega) q⟩⟩
      have := (hs.2.1 c (by omega)).1
      exact absurd ⟨by omega, hc⟩ hnc
    | succ f ih =>
      intro i al el e h1 h2 h3 h4 h5
      have alb : al < 20000 := by
        rcases h3 with ⟨a, _⟩ | ⟨a, b⟩
        · omega
        · have s1 := hs.1 (i - 1) (by omega)
          have := lcp_at hd s1.1 hp (fun e => by have := s1.2; rw [e] at this; omega)
          rw [b]; omega
      rw [vc_PB_walkFrom_18, nI_ltI (by omega) (by omega), nI_leI (by omega) (by omega)]
      refine ⟨fun q => by omega, fun _ => ⟨fun q => by omega, fun _ => ?_⟩⟩
      have s1 := hs.1 i (by omega)
      have hne : sa i ≠ p := fun e => by have := s1.2; rw [e] at this; omega
      have ex1 : nI i - nI 1 = nI (i - 1) := nI_subI (by omega)
      have ex2 : (if nI i < nI (i - 1) then nI (i - 1) else nI i) = nI i := if_neg (fun g => by have := (nI_ltI (by omega) (by omega)).mp g; omega)
      have lb := LL_lt hd hs (show i < cs n by omega)
      have ei : i - 1 + 1 = i := by omega
      have eal : min al (LL K (cs n) sa i) = lcp K (cs n) (sa i) p := by
        rcases h3 with ⟨a, b⟩ | ⟨a, b⟩
        · have e2 : sa (i - 1) = p := by rw [show i - 1 = rk p by omega, r0.2]
          have e3 : LL K (cs n) sa i = lcp K (cs n) (sa i) p := by
            rw [← ei, LL_succ, ei, e2, lcp_comm]
          rw [e3, a]
          have := (lcp_len hd s1.1 hp hne).2
          have := (lenf_le hd hp).2
          omega
        · have st := SA_lcp_step hd hs (show rk p < i - 1 by omega) (show i - 1 + 1 < cs n by omega)
          rw [r0.2, ei] at st
          rw [b, lcp_comm K (cs n) (sa (i - 1)), lcp_comm K (cs n) (sa i), st]
      have lcb := lcp_at hd s1.1 hp hne
      rw [ex1, ex2, nI_clamp (by omega), hab _ (by omega), nI_minI (by omega) (by omega), eal, hso _ (by omega)]
      refine ⟨(vpI (by omega)).mpr (by omega), ?_⟩
      unfold vc_PB_isTooShort vc_PB_isTooShort_12
      rw [li0, nI_eq (by omega) (by omega), nI_leI (by omega) (by omega)]
      have far : ∀ c, lo ≤ c → c < p → rk c ≠ rk p → ¬ (rk c < i ∧ rk c ≠ rk p) → lcp K (cs n) c p ≤ lcp K (cs n) (sa i) p := by
        intro c c1 c2 c3 c4
        have rc := hs.2.1 c (by omega)
        by_cases g : rk c = i
        · rw [← g, rc.2]; exact Nat.le_refl _
        · have x1 : XX K (cs n) p ≤ XX K (cs n) (sa i) := Nat.le_of_lt ((SA_lt hs hp s1.1).mpr (by rw [s1.2]; omega))
          have x2 : XX K (cs n) (sa i) ≤ XX K (cs n) c := Nat.le_of_lt ((SA_lt hs s1.1 (by omega)).mpr (by rw [s1.2]; omega))
          rw [lcp_comm K (cs n) c, lcp_comm K (cs n) (sa i), lcp_mid hd x1 x2]
          exact Nat.min_le_left _ _
      have stop : (lcp K (cs n) (sa i) p = 0 ∨ lcp K (cs n) (sa i) p < el) → post (nI el) (nI e - nI 1) := by
        intro g
        refine hpost el e (best_grow h5 (fun c _ _ hc => hc.2) (fun c c1 c2 hc hnc => ?_)) (by omega)
        have := far c c1 c2 hc hnc
        omega
      refine ⟨fun g => ⟨fun e => absurd e (by decide), fun _ => stop (Or.inl g)⟩, fun g => ⟨fun g2 => ⟨fun _ => ⟨(vpI (by omega)).mpr (by omega), ?_⟩, fun e => absurd rfl e⟩, fun g2 => ⟨fun e => absurd e (by decide), fun _ => stop (Or.inr (by omega))⟩⟩⟩
      refine s_keepEarlier h5 ⟨by omega, by omega, by omega, by omega⟩ g2 (by omega) (fun c => by rw [s1.2] at c; omega) (fun el' e' hb' hle => ?_)
      rw [nI_add]
      refine ih (i + 1) _ el' e' (by omega) (by omega) (Or.inr ⟨by omega, by rw [Nat.add_sub_cancel]⟩) (by omega) ?_
      refine best_grow hb' (fun c c1 c2 hc => ?_) (fun c c1 c2 hc hnc => ?_)
      · rcases hc with hc | hc
        · rw [hc, s1.2]; omega
        · omega
      · refine absurd ?_ hnc
        by_cases c5 : rk c = i
        · refine Or.inl ?_
          rw [← c5, (hs.2.1 c (by omega)).2]
        · exact Or.inr ⟨by omega, hc.2⟩
  refine key (cs n - (rk p + 1)) (rk p + 1) 16384 el0 e0 (by omega) (by omega) (Or.inl ⟨rfl, rfl⟩) hel ?_
  exact best_grow h0 (fun c _ _ hc => by omega) (fun c _ _ hc hnc => absurd (by omega) hnc)
