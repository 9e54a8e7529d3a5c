/-! the sorter as a whole: the suffixes in order -/
def dif (K : Nat → Nat) (N h : Nat) (s : Nat → Nat) (j : Nat) : Bool := decide (cod (sy K N (s j)) h ≠ cod (sy K N (s (j + 1))) h)
def SortInv (K : Nat → Nat) (N h : Nat) (s inv r : Nat → Nat) (c : Nat) : Prop :=
  Perm N s inv ∧ (∀ i j, i < j → j < N → cod (sy K N (s i)) h ≤ cod (sy K N (s j)) h) ∧ (∀ i, i < N → r (s i) = cnt (dif K N h s) i) ∧ c = cnt (dif K N h s) (N - 1) + 1
/-- counting the changes of a rising row -/
theorem cnt_rise {g : Nat → Nat} {D : Nat → Bool} {N : Nat} (hg : ∀ i j, i < j → j < N → g i ≤ g j) (hD : ∀ j, j + 1 < N → (D j = true ↔ g j ≠ g (j + 1))) :
    ∀ j i, i ≤ j → j < N → (cnt D i = cnt D j ↔ g i = g j) := by
  intro j
  induction j with
  | zero => intro i hi hj; rw [show i = 0 by omega]; simp
  | succ j ih =>
    intro i hi hj
    by_cases e : i = j + 1
    · rw [e]; simp
    · have a := ih i (by omega) (by omega)
      have b := hD j hj
      have m := cnt_step D (show i ≤ j by omega)
      have m1 : i = j ∨ g i ≤ g j := by
        by_cases q : i = j
        · exact Or.inl q
        · exact Or.inr (hg i j (by omega) (by omega))
      have m2 := hg j (j + 1) (by omega) hj
      have hc : cnt D (j + 1) = cnt D j + (if D j = true then 1 else 0) := rfl
      rw [hc]
      by_cases q : D j = true
      · rw [if_pos q]
        have := b.mp q
        constructor
        · intro; omega
        · intro e2
          rcases m1 with m1 | m1
          · rw [m1] at e2; exact absurd e2 this
          · omega
      · rw [if_neg q]
        have e3 : g j = g (j + 1) := by
          by_cases e4 : g j = g (j + 1)
          · exact e4
          · exact absurd (b.mpr e4) q
        rw [← e3]
        exact a
theorem cnt_riseLt {g : Nat → Nat} {D : Nat → Bool} {N : Nat} (hg : ∀ i j, i < j → j < N → g i ≤ g j) (hD : ∀ j, j + 1 < N → (D j = true ↔ g j ≠ g (j + 1))) {i j : Nat} (hi : i < N) (hj : j < N) :
    cnt D i < cnt D j ↔ g i < g j := by
  by_cases q : i ≤ j
  · have a := cnt_rise hg hD j i q hj
    have b := cnt_step D q
    by_cases e : i = j
    · rw [e]; simp
    · have c := hg i j (by omega) hj
      omega
  · have a := cnt_rise hg hD i j (by omega) hi
    have b := cnt_step D (show j ≤ i by omega)
    have c := hg j i (by omega) hi
    omega
theorem sort_rank {K : Nat → Nat} {N h c : Nat} {s inv r : Nat → Nat} (H : SortInv K N h s inv r c) {p q : Nat} (hp : p < N) (hq : q < N) : r p < r q ↔ cod (sy K N p) h < cod (sy K N q) h := by
  obtain ⟨a, b, d, e⟩ := H
  have hp' := a.2 p hp
  have hq' := a.2 q hq
  have h1 := cnt_riseLt (g := fun i => cod (sy K N (s i)) h) (D := dif K N h s) (N := N) b (fun j hj => by unfold dif; simp) hp'.1 hq'.1
  have d1 := d _ hp'.1
  have d2 := d _ hq'.1
  rw [hp'.2] at d1
  rw [hq'.2] at d2
  rw [d1, d2, h1]
  simp only [hp'.2, hq'.2]
theorem sort_bound {K : Nat → Nat} {N h c : Nat} {s inv r : Nat → Nat} (H : SortInv K N h s inv r c) {p : Nat} (hp : p < N) : r p < c ∧ c ≤ N := by
  obtain ⟨a, b, d, e⟩ := H
  have hp' := a.2 p hp
  have d1 := d _ hp'.1
  rw [hp'.2] at d1
  have := cnt_step (dif K N h s) (show inv p ≤ N - 1 by omega)
  have := cnt_le (dif K N h s) (N - 1)
  omega
/-- alike for h: the tails are there -/
theorem cod_tail {K ow cs : Nat → Nat} {n p q h : Nat} (hd : DocOk K ow cs n) (hp : p < cs n) (hq : q < cs n) (hne : p ≠ q) (e : cod (sy K (cs n) p) h = cod (sy K (cs n) q) h) : p + h < cs n ∧ q + h < cs n := by
  have e2 := (cod_eq (sy_lt hd p) (sy_lt hd q) h).mp e
  obtain ⟨l, a, b⟩ := doc_differ hd hp hq hne
  obtain ⟨l', a', b'⟩ := doc_differ hd hq hp (Ne.symm hne)
  have h1 := (doc_len hd hp).2.1
  have h2 := (doc_len hd hq).2.1
  have : ¬ l < h := fun g => b (e2 l g)
  have : ¬ l' < h := fun g => b' (e2 l' g).symm
  omega
theorem cod_XX {K ow cs : Nat → Nat} {n p q h : Nat} (hd : DocOk K ow cs n) (hp : p < cs n) (hq : q < cs n) (e : cod (sy K (cs n) p) h < cod (sy K (cs n) q) h) : XX K (cs n) p < XX K (cs n) q := by
  obtain ⟨l, a, b, c⟩ := (cod_lt (sy_lt hd p) (sy_lt hd q) h).mp e
  have hN := doc_N hd
  rw [XX_def, XX_def]
  refine (cod_lt (sy_lt hd p) (sy_lt hd q) 16448).mpr ⟨l, ?_, b, c⟩
  unfold sy at c
  by_cases g : q + l < cs n
  · omega
  · rw [if_neg g] at c; omega
theorem sort_step {K ow cs : Nat → Nat} {n h c : Nat} {s inv r b idx s' inv' : Nat → Nat} (hd : DocOk K ow cs n) (H : SortInv K (cs n) h s inv r c)
    (hb2 : ∀ p q, p + h < cs n → q + h < cs n → (idx p < idx q ↔ inv (p + h) < inv (q + h)))
    (hs' : Perm (cs n) s' inv') (ho : ∀ i j, i < j → j < cs n → r (s' i) < r (s' j) ∨ (r (s' i) = r (s' j) ∧ idx (s' i) < idx (s' j))) :
    SortInv K (cs n) (h + h) s' inv' (fun p => cnt (difr (cs n) h r s') (inv' p)) (cnt (difr (cs n) h r s') (cs n - 1) + 1) := by
  have hrank := fun p q hp hq => sort_rank H (p := p) (q := q) hp hq
  have hreq : ∀ p q, p < cs n → q < cs n → (r p = r q ↔ cod (sy K (cs n) p) h = cod (sy K (cs n) q) h) := by
    intro p q hp hq
    have a := hrank p q hp hq
    have b := hrank q p hq hp
    omega
  have hdif : ∀ j, j + 1 < cs n → difr (cs n) h r s' j = dif K (cs n) (h + h) s' j := by
    intro j hj
    have a := (hs'.1 j (by omega)).1
    have b := (hs'.1 (j + 1) hj).1
    have hne : s' j ≠ s' (j + 1) := fun e => by
      have := (hs'.1 j (by omega)).2
      rw [e, (hs'.1 (j + 1) hj).2] at this
      omega
    unfold difr dif
    rw [← decide_not]
    congr 1
    apply propext
    have tw := cod_twice_eq (sy_lt hd (s' j)) (sy_lt hd (s' (j + 1))) h h
    rw [sy_shift, sy_shift] at tw
    rw [Ne, tw, ← hreq _ _ a b]
    constructor
    · intro g1 g2
      obtain ⟨t1, t2⟩ := cod_tail hd a b hne ((hreq _ _ a b).mp g2.1)
      exact g1 ⟨g2.1, t1, t2, (hreq _ _ t1 t2).mpr g2.2⟩
    · intro g1 g2
      exact g1 ⟨g2.1, (hreq _ _ g2.2.1 g2.2.2.1).mp g2.2.2.2⟩
  have hcd : ∀ i, i < cs n → cnt (difr (cs n) h r s') i = cnt (dif K (cs n) (h + h) s') i := fun i hi => cnt_congr (fun j hj => hdif j (by omega))
  refine ⟨hs', fun i j hij hj => ?_, fun i hi => ?_, ?_⟩
  · have a := (hs'.1 i (by omega)).1
    have b := (hs'.1 j hj).1
    have hne : s' i ≠ s' j := fun e => by
      have := (hs'.1 i (by omega)).2
      rw [e, (hs'.1 j hj).2] at this
      omega
    have tw := cod_twice (sy_lt hd (s' j)) (sy_lt hd (s' i)) h h
    rw [sy_shift, sy_shift] at tw
    by_cases q : cod (sy K (cs n) (s' j)) (h + h) < cod (sy K (cs n) (s' i)) (h + h)
    · have tw2 := tw.mp q
      rcases ho i j hij hj with o | ⟨o1, o2⟩
      · have := (hrank _ _ a b).mp o
        omega
      · have e := (hreq _ _ a b).mp o1
        obtain ⟨t1, t2⟩ := cod_tail hd a b hne e
        have i1 := (hb2 _ _ t1 t2).mp o2
        have p1 := H.1.2 _ t1
        have p2 := H.1.2 _ t2
        have := H.2.1 _ _ i1 p2.1
        rw [p1.2, p2.2] at this
        omega
    · omega
  · show cnt (difr (cs n) h r s') (inv' (s' i)) = _
    rw [(hs'.1 i hi).2, hcd i hi]
  · by_cases q : 0 < cs n
    · rw [hcd _ (by omega)]
    · rw [show cs n - 1 = 0 by omega]; rfl
/-- the end -/
theorem sort_end {K ow cs : Nat → Nat} {n h c : Nat} {s inv r : Nat → Nat} (hd : DocOk K ow cs n) (H : SortInv K (cs n) h s inv r c) (hx : cs n ≤ h ∨ cs n ≤ c) : SAok K (cs n) s r := by
  obtain ⟨hs, hg, hr, hc⟩ := H
  have hall : ∀ j, j + 1 < cs n → dif K (cs n) h s j = true := by
    rcases hx with hx | hx
    · intro j hj
      unfold dif
      simp only [decide_eq_true_eq]
      intro e
      have a := (hs.1 j (by omega)).1
      have b := (hs.1 (j + 1) hj).1
      have hne : s j ≠ s (j + 1) := fun e => by
        have := (hs.1 j (by omega)).2
        rw [e, (hs.1 (j + 1) hj).2] at this
        omega
      have := (cod_tail hd a b hne e).1
      omega
    · intro j hj
      by_cases q : dif K (cs n) h s j = true
      · exact q
      · have l := cnt_lt (n := cs n - 1) (q := j) (P := dif K (cs n) h s) (Q := fun _ => true) (fun _ _ _ => rfl) (by omega) rfl (by simpa using q)
        rw [cnt_all (P := fun _ => true) (fun _ _ => rfl)] at l
        omega
  have hri : ∀ i, i < cs n → r (s i) = i := by
    intro i hi
    rw [hr i hi, cnt_all (fun j hj => hall j (by omega))]
  refine ⟨fun k hk => ⟨(hs.1 k hk).1, hri k hk⟩, fun p hp => ?_, fun i j hij hj => ?_⟩
  · have a := hs.2 p hp
    have := hri _ a.1
    rw [a.2] at this
    rw [this]
    exact a
  · have h1 := cnt_riseLt (g := fun i => cod (sy K (cs n) (s i)) h) (D := dif K (cs n) h s) (N := cs n) hg (fun j hj => by unfold dif; simp) (show i < cs n by omega) hj
    rw [← hr i (by omega), ← hr j hj, hri i (by omega), hri j hj] at h1
    exact cod_XX hd (hs.1 i (by omega)).1 (hs.1 j hj).1 (h1.mp hij)
theorem cod1 (u : Nat → Nat) : cod u 1 = u 0 := by
  show cod u 0 * 400 + u 0 = u 0
  show 0 * 400 + u 0 = u 0
  rw [Nat.zero_mul, Nat.zero_add]
theorem dif1 {a b N x y : Nat} (h1 : x < N) (h2 : y < N) : ¬ (a = b ∧ x < N ∧ y < N ∧ a = b) ↔ a + 1 ≠ b + 1 := by omega
theorem s_sort {text owners starts : Nat → Int32} {K ow cs : Nat → Nat} {n : Nat} (h : LibC text owners starts K ow cs n) (h1 : 1 ≤ cs n) {sz0 : Int32} {bt0 nr0 t0 so0 rz0 : Nat → Int32}
    {post : Int32 → (Nat → Int32) → (Nat → Int32) → (Nat → Int32) → (Nat → Int32) → (Nat → Int32) → Prop}
    (hp : ∀ sz bt nr t so rz, (∃ sa rk, SAok K (cs n) sa rk ∧ (∀ k, k < cs n → so k = nI (sa k)) ∧ (∀ p, p < cs n → rz p = nI (rk p))) → post sz bt nr t so rz) :
    vc_SO_sort (nI (cs n)) 16448 16448 16448 text post sz0 bt0 nr0 t0 so0 rz0 := by
  obtain ⟨hd, ht, ho, hst⟩ := h
  have hN := doc_N hd
  have key67 : ∀ k h c, cs n ≤ h + k → 1 ≤ h → h ≤ 40000 → ∀ bt nr t so rz s inv r, SortInv K (cs n) h s inv r c → (∀ k, k < cs n → so k = nI (s k)) → (∀ p, p < cs n → rz p = nI (r p)) →
      vc_SO_sort_67 (nI (cs n)) 16448 16448 16448 text post (k + 1) (nI c) (nI h) (nI (cs n)) bt nr t so rz := by
    intro k
    induction k with
    | zero =>
      intro h c hk h1 h2 bt nr t so rz s inv r H hso hrz
      rw [vc_SO_sort_67]
      simp (disch := omega) only [li0, li1, li2, li3, li4, li5, li6, li7, li8, li16, li20, li24, li31, li63, li64, li65, li200, li255, li256, li320, li16384, li16448, li65535, li65536, nI_add, nI_subI, nI_mulI, nI_ltI, nI_leI, nI_eq, nI_clamp, vpI, nI_maxN, nI_minN, ls_nI, half_nI, nI_addneg]
      refine ⟨fun _ => hp _ _ _ _ _ _ ⟨s, r, sort_end hd H (Or.inl (by omega)), hso, hrz⟩, fun q => absurd (by omega) q⟩
    | succ k ih =>
      intro h c hk hh1 h2 bt nr t so rz s inv r H hso hrz
      have hb := sort_bound H (show 0 < cs n by omega)
      rw [vc_SO_sort_67]
      simp (disch := omega) only [li0, li1, li2, li3, li4, li5, li6, li7, li8, li16, li20, li24, li31, li63, li64, li65, li200, li255, li256, li320, li16384, li16448, li65535, li65536, nI_add, nI_subI, nI_mulI, nI_ltI, nI_leI, nI_eq, nI_clamp, vpI, nI_maxN, nI_minN, ls_nI, half_nI, nI_addneg]
      refine ⟨fun q => hp _ _ _ _ _ _ ⟨s, r, sort_end hd H (Or.inl (by omega)), hso, hrz⟩, fun q => ⟨fun q2 => hp _ _ _ _ _ _ ⟨s, r, sort_end hd H (Or.inr (by omega)), hso, hrz⟩, fun q2 => ?_⟩⟩
      refine s_sortByTails hN hh1 (by omega) H.1 hso ?_
      rintro bt' ⟨b, idx, hb1, hb2, hb3⟩
      refine s_sbr hN h1 (by omega) (by omega) hb1 hb2 hrz (fun p hp => (sort_bound H hp).1) ?_
      rintro t' so' ⟨s', inv', hs1, hs2, hs3⟩
      refine s_rankAnew hN h1 (by omega) hs1 hs2 hrz (fun p hp => by have := sort_bound H hp; omega) ?_
      intro nr' rz' hrz'
      have e : nI h * nI 2 = nI (h + h) := by rw [nI_mulI, Nat.mul_two]
      refine ih (h * 2) _ (by omega) (by omega) (by omega) _ _ _ _ _ s' inv' (fun p => cnt (difr (cs n) h r s') (inv' p)) ?_ hs2 (fun p hp => ?_)
      · rw [Nat.mul_two]
        exact sort_step (b := b) hd H hb3 hs1 hs3
      · have a := hs1.2 p hp
        have := hrz' _ a.1
        rw [a.2] at this
        exact this
  have key8 : ∀ k x, x + k = cs n → ∀ bt rz, (∀ i, i < x → bt i = nI i) → (∀ i, i < x → rz i = nI (K i)) → ∀ nr t so,
      vc_SO_sort_8 (nI (cs n)) 16448 16448 16448 text post (k + 1) (nI x) (nI (cs n)) bt nr t so rz := by
    intro k
    induction k with
    | zero =>
      intro x hx bt rz hbt hrz nr t so
      rw [vc_SO_sort_8]
      simp (disch := omega) only [li0, li1, li2, li3, li4, li5, li6, li7, li8, li16, li20, li24, li31, li63, li64, li65, li200, li255, li256, li320, li16384, li16448, li65535, li65536, nI_add, nI_subI, nI_mulI, nI_ltI, nI_leI, nI_eq, nI_clamp, vpI, nI_maxN, nI_minN, ls_nI, half_nI, nI_addneg]
      refine ⟨fun _ => ?_, fun q => absurd (by omega) q⟩
      have e : x = cs n := by omega
      subst e
      refine s_sbr (C := 320) (b := fun i => i) (idx := fun i => i) hN h1 (by omega) (by omega) ⟨fun k hk => ⟨hk, rfl⟩, fun k hk => ⟨hk, rfl⟩⟩ hbt hrz (fun p hp => doc_K hd hp) ?_
      rintro t' so' ⟨s', inv', hs1, hs2, hs3⟩
      refine s_rankAnew (h := 0) hN h1 (by omega) hs1 hs2 hrz (fun p hp => by have := doc_K hd hp; omega) ?_
      intro nr' rz' hrz'
      have hc1 : ∀ p, p < cs n → cod (sy K (cs n) p) 1 = K p + 1 := by
        intro p hp
        rw [cod1]
        unfold sy
        rw [Nat.add_zero, if_pos hp]
      have hdif : ∀ j, j + 1 < cs n → difr (cs n) 0 K s' j = dif K (cs n) 1 s' j := by
        intro j hj
        have a := (hs1.1 j (by omega)).1
        have b := (hs1.1 (j + 1) hj).1
        unfold difr dif
        rw [hc1 _ a, hc1 _ b, ← decide_not]
        congr 1
        apply propext
        exact dif1 a b
      have hcd : ∀ i, i < cs n → cnt (difr (cs n) 0 K s') i = cnt (dif K (cs n) 1 s') i := fun i hi => cnt_congr (fun j hj => hdif j (by omega))
      refine ⟨cs n + 1, key67 (cs n) 1 _ (by omega) (by omega) (by omega) _ _ _ _ _ s' inv' (fun p => cnt (difr (cs n) 0 K s') (inv' p)) ⟨hs1, fun i j hij hj => ?_, fun i hi => ?_, ?_⟩ hs2 (fun p hp => ?_)⟩
      · rw [hc1 _ (hs1.1 i (by omega)).1, hc1 _ (hs1.1 j hj).1]
        have := hs3 i j hij hj
        omega
      · show cnt (difr (cs n) 0 K s') (inv' (s' i)) = _
        rw [(hs1.1 i hi).2, hcd i hi]
      · rw [hcd _ (by omega)]
      · have a := hs1.2 p hp
        have := hrz' _ a.1
        rw [a.2] at this
        exact this
    | succ k ih =>
      intro x hx bt rz hbt hrz nr t so
      rw [vc_SO_sort_8]
      simp (disch := omega) only [li0, li1, li2, li3, li4, li5, li6, li7, li8, li16, li20, li24, li31, li63, li64, li65, li200, li255, li256, li320, li16384, li16448, li65535, li65536, nI_add, nI_subI, nI_mulI, nI_ltI, nI_leI, nI_eq, nI_clamp, vpI, nI_maxN, nI_minN, ls_nI, half_nI, nI_addneg, ht, tx_rank]
      refine ⟨fun q => by omega, fun _ => ⟨by omega, by omega, by omega, ih (x + 1) (by omega) _ _ (fun i hi => ?_) (fun i hi => ?_) _ _ _⟩⟩
      · by_cases e : i = x
        · rw [e, upS]
        · rw [upN e]; exact hbt i (by omega)
      · by_cases e : i = x
        · rw [e, upS]
        · rw [upN e]; exact hrz i (by omega)
  exact ⟨cs n + 1, key8 (cs n) 0 (by omega) _ _ (fun i hi => by omega) (fun i hi => by omega) _ _ _⟩
