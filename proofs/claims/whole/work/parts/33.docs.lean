/-! documents in one text: K the numbers (mark of d: d; byte v: 64 + v), ow the owners, cs the starts, n documents -/
def DocOk (K ow cs : Nat → Nat) (n : Nat) : Prop :=
  cs 0 = 0 ∧ (∀ d, d < n → cs d + 2 ≤ cs (d + 1)) ∧
  (∀ d p, d < n → cs d ≤ p → p < cs (d + 1) → ow p = d ∧ (p + 1 = cs (d + 1) → K p = d) ∧ (p + 1 ≠ cs (d + 1) → 64 ≤ K p ∧ K p < 320)) ∧
  n ≤ 64 ∧ cs n ≤ 16384 + n
theorem cs_mono {cs : Nat → Nat} {n : Nat} (h : ∀ d, d < n → cs d + 2 ≤ cs (d + 1)) : ∀ e d, d ≤ e → e ≤ n → cs d + 2 * (e - d) ≤ cs e := by
  intro e
  induction e with
  | zero => intro d h1 h2; have : d = 0 := by omega
            subst this; simp
  | succ e ih =>
    intro d h1 h2
    by_cases q : d = e + 1
    · subst q; simp
    · have := ih d (by omega) (by omega)
      have := h e (by omega)
      omega
theorem doc_mono {K ow cs : Nat → Nat} {n : Nat} (h : DocOk K ow cs n) {d e : Nat} (h1 : d ≤ e) (h2 : e ≤ n) : cs d + 2 * (e - d) ≤ cs e := cs_mono h.2.1 e d h1 h2
/-- the document of a position -/
theorem cs_find {cs : Nat → Nat} (h0 : cs 0 = 0) : ∀ n p, p < cs n → ∃ d, d < n ∧ cs d ≤ p ∧ p < cs (d + 1) := by
  intro n
  induction n with
  | zero => intro p hp; omega
  | succ n ih =>
    intro p hp
    by_cases q : p < cs n
    · obtain ⟨d, a, b⟩ := ih p q
      exact ⟨d, by omega, b⟩
    · exact ⟨n, by omega, by omega, hp⟩
theorem doc_at {K ow cs : Nat → Nat} {n p : Nat} (h : DocOk K ow cs n) (hp : p < cs n) :
    ow p < n ∧ cs (ow p) ≤ p ∧ p < cs (ow p + 1) ∧ (p + 1 = cs (ow p + 1) → K p = ow p) ∧ (p + 1 ≠ cs (ow p + 1) → 64 ≤ K p ∧ K p < 320) := by
  obtain ⟨d, a, b, c⟩ := cs_find h.1 n p hp
  obtain ⟨e, f, g⟩ := h.2.2.1 d p a b c
  rw [e]
  exact ⟨a, b, c, f, g⟩
theorem doc_own {K ow cs : Nat → Nat} {n p d : Nat} (h : DocOk K ow cs n) (hd : d < n) (h1 : cs d ≤ p) (h2 : p < cs (d + 1)) : ow p = d := (h.2.2.1 d p hd h1 h2).1
theorem doc_K {K ow cs : Nat → Nat} {n p : Nat} (h : DocOk K ow cs n) (hp : p < cs n) : K p < 320 := by
  obtain ⟨a, b, c, d, e⟩ := doc_at h hp
  have := h.2.2.2.1
  by_cases q : p + 1 = cs (ow p + 1)
  · have := d q; omega
  · exact (e q).2
/-- bytes from p to the mark -/
def lenf (ow cs : Nat → Nat) (p : Nat) : Nat := cs (ow p + 1) - 1 - p
theorem doc_len {K ow cs : Nat → Nat} {n p : Nat} (h : DocOk K ow cs n) (hp : p < cs n) : p + lenf ow cs p + 1 = cs (ow p + 1) ∧ p + lenf ow cs p < cs n ∧ K (p + lenf ow cs p) = ow p ∧ ow (p + lenf ow cs p) = ow p := by
  obtain ⟨a, b, c, d, e⟩ := doc_at h hp
  have hl : p + lenf ow cs p + 1 = cs (ow p + 1) := by unfold lenf; omega
  have hm := doc_mono h (show ow p + 1 ≤ n by omega) (Nat.le_refl n)
  obtain ⟨f, g, i⟩ := h.2.2.1 (ow p) (p + lenf ow cs p) a (by omega) (by omega)
  exact ⟨hl, by omega, g hl, f⟩
/-- before the mark: bytes of the same document -/
theorem doc_in {K ow cs : Nat → Nat} {n p i : Nat} (h : DocOk K ow cs n) (hp : p < cs n) (hi : i < lenf ow cs p) : p + i < cs n ∧ ow (p + i) = ow p ∧ 64 ≤ K (p + i) ∧ K (p + i) < 320 ∧ lenf ow cs (p + i) = lenf ow cs p - i := by
  obtain ⟨a, b, c, d⟩ := doc_len h hp
  obtain ⟨e, f, g, _⟩ := doc_at h hp
  obtain ⟨j, k, l⟩ := h.2.2.1 (ow p) (p + i) e (by omega) (by omega)
  have := l (by omega)
  refine ⟨by omega, j, this.1, this.2, ?_⟩
  unfold lenf at *
  rw [j]; omega
theorem doc_mark {K ow cs : Nat → Nat} {n p : Nat} (h : DocOk K ow cs n) (hp : p < cs n) : K p < 64 ↔ p + 1 = cs (ow p + 1) := by
  obtain ⟨a, b, c, d, e⟩ := doc_at h hp
  have := h.2.2.2.1
  constructor
  · intro q
    by_cases q2 : p + 1 = cs (ow p + 1)
    · exact q2
    · have := e q2; omega
  · intro q
    have := d q; omega
theorem doc_len0 {K ow cs : Nat → Nat} {n p : Nat} (h : DocOk K ow cs n) (hp : p < cs n) : K p < 64 ↔ lenf ow cs p = 0 := by
  rw [doc_mark h hp]
  have := (doc_len h hp).1
  omega
/-- the numbers of the suffix p of a text of N -/
def sy (K : Nat → Nat) (N p : Nat) : Nat → Nat := fun i => if p + i < N then K (p + i) + 1 else 0
theorem sy_lt {K ow cs : Nat → Nat} {n : Nat} (h : DocOk K ow cs n) (p i : Nat) : sy K (cs n) p i < 400 := by
  unfold sy
  split
  · rename_i q
    have := doc_K h q
    omega
  · omega
theorem sy_shift (K : Nat → Nat) (N p h : Nat) : (fun i => sy K N p (h + i)) = sy K N (p + h) := by
  funext i
  unfold sy
  rw [Nat.add_assoc]
theorem sy_congr {K K' : Nat → Nat} {N : Nat} (h : ∀ p, p < N → K p = K' p) : sy K N = sy K' N := by
  funext p i
  unfold sy
  split
  · rename_i q; rw [h _ q]
  · rfl
theorem ex_eq (x : Nat) : ∃ l, l = x := ⟨x, rfl⟩
noncomputable def lcp (K : Nat → Nat) (N p q : Nat) : Nat := Classical.choose (ex_eq (lc (sy K N p) (sy K N q) 16448))
noncomputable def XX (K : Nat → Nat) (N p : Nat) : Nat := Classical.choose (ex_eq (cod (sy K N p) 16448))
theorem lcp_def (K : Nat → Nat) (N p q : Nat) : lcp K N p q = lc (sy K N p) (sy K N q) 16448 := Classical.choose_spec (ex_eq (lc (sy K N p) (sy K N q) 16448))
theorem XX_def (K : Nat → Nat) (N p : Nat) : XX K N p = cod (sy K N p) 16448 := Classical.choose_spec (ex_eq (cod (sy K N p) 16448))
theorem doc_N {K ow cs : Nat → Nat} {n : Nat} (h : DocOk K ow cs n) : cs n ≤ 16448 := by
  have := h.2.2.2.1
  have := h.2.2.2.2
  omega
/-- two suffixes differ no later than at a mark -/
theorem doc_differ {K ow cs : Nat → Nat} {n p q : Nat} (h : DocOk K ow cs n) (hp : p < cs n) (hq : q < cs n) (hne : p ≠ q) : ∃ l, l ≤ lenf ow cs p ∧ sy K (cs n) p l ≠ sy K (cs n) q l := by
  obtain ⟨a, b, c, d⟩ := doc_len h hp
  refine ⟨lenf ow cs p, Nat.le_refl _, ?_⟩
  intro e
  unfold sy at e
  rw [if_pos b, c] at e
  by_cases g : q + lenf ow cs p < cs n
  · rw [if_pos g] at e
    have e1 : K (q + lenf ow cs p) = ow p := by omega
    obtain ⟨a1, b1, c1, d1, e2⟩ := doc_at h g
    have hw := (doc_at h hp).1
    have h64 := h.2.2.2.1
    have m := (doc_mark h g).mp (by omega)
    have m2 := d1 m
    rw [← m2, e1] at m
    omega
  · rw [if_neg g] at e; omega
theorem lcp_comm (K : Nat → Nat) (N p q : Nat) : lcp K N p q = lcp K N q p := by rw [lcp_def, lcp_def, lc_comm]
theorem lcp_len {K ow cs : Nat → Nat} {n p q : Nat} (h : DocOk K ow cs n) (hp : p < cs n) (hq : q < cs n) (hne : p ≠ q) : lcp K (cs n) p q ≤ lenf ow cs p ∧ lcp K (cs n) p q ≤ lenf ow cs q := by
  have key : ∀ p q, p < cs n → q < cs n → p ≠ q → lcp K (cs n) p q ≤ lenf ow cs p := by
    intro p q hp hq hne
    obtain ⟨l, a, b⟩ := doc_differ h hp hq hne
    by_cases c : l < lcp K (cs n) p q
    · exact absurd (lc_same l (by rw [lcp_def] at c; exact c)) b
    · omega
  exact ⟨key p q hp hq hne, by rw [lcp_comm]; exact key q p hq hp (Ne.symm hne)⟩
theorem lcp_at {K ow cs : Nat → Nat} {n p q : Nat} (h : DocOk K ow cs n) (hp : p < cs n) (hq : q < cs n) (hne : p ≠ q) :
    p + lcp K (cs n) p q < cs n ∧ q + lcp K (cs n) p q < cs n ∧ K (p + lcp K (cs n) p q) ≠ K (q + lcp K (cs n) p q) := by
  obtain ⟨a, b⟩ := lcp_len h hp hq hne
  have c := (doc_len h hp).2.1
  have d := (doc_len h hq).2.1
  have hN := doc_N h
  have e := lc_diff (u := sy K (cs n) p) (v := sy K (cs n) q) (f := 16448) (by rw [← lcp_def]; omega)
  rw [← lcp_def] at e
  have h1 : p + lcp K (cs n) p q < cs n := by omega
  have h2 : q + lcp K (cs n) p q < cs n := by omega
  refine ⟨h1, h2, fun g => e ?_⟩
  unfold sy
  rw [if_pos h1, if_pos h2, g]
theorem lcp_same {K ow cs : Nat → Nat} {n p q i : Nat} (h : DocOk K ow cs n) (hp : p < cs n) (hq : q < cs n) (hne : p ≠ q) (hi : i < lcp K (cs n) p q) :
    p + i < cs n ∧ q + i < cs n ∧ K (p + i) = K (q + i) ∧ 64 ≤ K (p + i) := by
  obtain ⟨a, b⟩ := lcp_len h hp hq hne
  have c := doc_in h hp (show i < lenf ow cs p by omega)
  have d := doc_in h hq (show i < lenf ow cs q by omega)
  have e := lc_same (u := sy K (cs n) p) (v := sy K (cs n) q) (f := 16448) i (by rw [← lcp_def]; exact hi)
  unfold sy at e
  rw [if_pos c.1, if_pos d.1] at e
  exact ⟨c.1, d.1, by omega, c.2.2.1⟩
theorem lcp_is {K ow cs : Nat → Nat} {n p q l : Nat} (h : DocOk K ow cs n) (hp : p + l < cs n) (hq : q + l < cs n) (hs : ∀ i, i < l → K (p + i) = K (q + i)) (hd : K (p + l) ≠ K (q + l)) : lcp K (cs n) p q = l := by
  have hN := doc_N h
  rw [lcp_def]
  refine lc_is (by omega) (fun i hi => ?_) ?_
  · unfold sy
    rw [if_pos (by omega), if_pos (by omega), hs i hi]
  · unfold sy
    rw [if_pos hp, if_pos hq]
    omega
theorem XX_lt {K ow cs : Nat → Nat} {n p q : Nat} (h : DocOk K ow cs n) (hp : p < cs n) (hq : q < cs n) (hne : p ≠ q) :
    XX K (cs n) p < XX K (cs n) q ↔ K (p + lcp K (cs n) p q) < K (q + lcp K (cs n) p q) := by
  obtain ⟨a, b, c⟩ := lcp_at h hp hq hne
  rw [XX_def, XX_def, cod_lt (sy_lt h p) (sy_lt h q)]
  have hN := doc_N h
  constructor
  · rintro ⟨l, h1, h2, h3⟩
    have e : lcp K (cs n) p q = l := by rw [lcp_def]; exact lc_is h1 h2 (by omega)
    unfold sy at h3
    rw [← e, if_pos a, if_pos b] at h3
    omega
  · intro g
    refine ⟨lcp K (cs n) p q, by omega, fun i hi => lc_same (f := 16448) i (by rw [← lcp_def]; exact hi), ?_⟩
    unfold sy
    rw [if_pos a, if_pos b]
    omega
theorem XX_inj {K ow cs : Nat → Nat} {n p q : Nat} (h : DocOk K ow cs n) (hp : p < cs n) (hq : q < cs n) (e : XX K (cs n) p = XX K (cs n) q) : p = q := by
  by_cases hne : p = q
  · exact hne
  · have a := XX_lt h hp hq hne
    have b := XX_lt h hq hp (Ne.symm hne)
    rw [lcp_comm] at b
    have c := (lcp_at h hp hq hne).2.2
    omega
theorem lcp_mid {K ow cs : Nat → Nat} {n p q r : Nat} (h : DocOk K ow cs n) (h1 : XX K (cs n) p ≤ XX K (cs n) q) (h2 : XX K (cs n) q ≤ XX K (cs n) r) :
    lcp K (cs n) p r = min (lcp K (cs n) p q) (lcp K (cs n) q r) := by
  rw [XX_def, XX_def] at h1 h2
  rw [lcp_def, lcp_def, lcp_def]
  exact lc_mid (sy_lt h p) (sy_lt h q) (sy_lt h r) h1 h2
theorem lcp_tri (K : Nat → Nat) (N p q r : Nat) : min (lcp K N p q) (lcp K N q r) ≤ lcp K N p r := by rw [lcp_def, lcp_def, lcp_def]; exact lc_tri
/-- one byte later -/
theorem lcp_next {K ow cs : Nat → Nat} {n p q i : Nat} (h : DocOk K ow cs n) (hp : p < cs n) (hq : q < cs n) (hne : p ≠ q) (hi : i ≤ lcp K (cs n) p q) :
    lcp K (cs n) (p + i) (q + i) = lcp K (cs n) p q - i := by
  obtain ⟨a, b, c⟩ := lcp_at h hp hq hne
  refine lcp_is h (by omega) (by omega) (fun j hj => ?_) ?_
  · have := (lcp_same h hp hq hne (show i + j < lcp K (cs n) p q by omega)).2.2.1
    rw [Nat.add_assoc, Nat.add_assoc]; exact this
  · rw [show p + i + (lcp K (cs n) p q - i) = p + lcp K (cs n) p q by omega, show q + i + (lcp K (cs n) p q - i) = q + lcp K (cs n) p q by omega]
    exact c
theorem XX_next {K ow cs : Nat → Nat} {n p q i : Nat} (h : DocOk K ow cs n) (hp : p < cs n) (hq : q < cs n) (hne : p ≠ q) (hi : i ≤ lcp K (cs n) p q) :
    XX K (cs n) (p + i) < XX K (cs n) (q + i) ↔ XX K (cs n) p < XX K (cs n) q := by
  obtain ⟨a, b, c⟩ := lcp_at h hp hq hne
  rw [XX_lt h hp hq hne, XX_lt h (by omega) (by omega) (by omega), lcp_next h hp hq hne hi,
    show p + i + (lcp K (cs n) p q - i) = p + lcp K (cs n) p q by omega, show q + i + (lcp K (cs n) p q - i) = q + lcp K (cs n) p q by omega]
/-- the suffixes in order -/
def SAok (K : Nat → Nat) (N : Nat) (sa rk : Nat → Nat) : Prop :=
  (∀ k, k < N → sa k < N ∧ rk (sa k) = k) ∧ (∀ p, p < N → rk p < N ∧ sa (rk p) = p) ∧ (∀ i j, i < j → j < N → XX K N (sa i) < XX K N (sa j))
theorem SA_lt {K : Nat → Nat} {N : Nat} {sa rk : Nat → Nat} (h : SAok K N sa rk) {p q : Nat} (hp : p < N) (hq : q < N) : XX K N p < XX K N q ↔ rk p < rk q := by
  obtain ⟨h1, h2, h3⟩ := h
  have a := h2 p hp
  have b := h2 q hq
  constructor
  · intro e
    by_cases c : rk p = rk q
    · rw [← a.2, c, b.2] at e; omega
    · by_cases d : rk q < rk p
      · have := h3 _ _ d a.1
        rw [a.2, b.2] at this; omega
      · omega
  · intro e
    have := h3 _ _ e b.1
    rwa [a.2, b.2] at this
theorem SA_inj {K : Nat → Nat} {N : Nat} {sa rk : Nat → Nat} (h : SAok K N sa rk) {i j : Nat} (hi : i < N) (hj : j < N) (e : sa i = sa j) : i = j := by
  rw [← (h.1 i hi).2, ← (h.1 j hj).2, e]
/-- the marks come first -/
theorem SA_marks {K ow cs : Nat → Nat} {n : Nat} {sa rk : Nat → Nat} (h : DocOk K ow cs n) (hs : SAok K (cs n) sa rk) : ∀ d, d < n → sa d + 1 = cs (d + 1) := by
  intro d
  induction d using Nat.strongRecOn with
  | ind d ih =>
    intro hd
    have hm := doc_mono h (show d + 1 ≤ n by omega) (Nat.le_refl n)
    have hm0 := doc_mono h (show 0 ≤ d by omega) (show d ≤ n by omega)
    have h2 := h.2.1 d hd
    have hMlt : cs (d + 1) - 1 < cs n := by omega
    obtain ⟨o1, k1, _⟩ := h.2.2.1 d (cs (d + 1) - 1) hd (by omega) (by omega)
    have hK := k1 (by omega)
    have r := hs.2.1 _ hMlt
    have hdn : d < cs n := by omega
    have sd := hs.1 d hdn
    -- the mark's rank is not below d
    have hge : d ≤ rk (cs (d + 1) - 1) := by
      by_cases q : rk (cs (d + 1) - 1) < d
      · have e := ih _ q (by omega)
        rw [r.2] at e
        have hm2 := doc_mono h (show rk (cs (d + 1) - 1) + 1 ≤ d by omega) (show d ≤ n by omega)
        omega
      · omega
    by_cases q : rk (cs (d + 1) - 1) = d
    · have g := r.2
      rw [q] at g
      omega
    · -- sa d lies before the mark: then it is a lower mark
      have hx := hs.2.2 d (rk (cs (d + 1) - 1)) (by omega) r.1
      rw [r.2] at hx
      have hne : sa d ≠ cs (d + 1) - 1 := by intro e; rw [e] at hx; omega
      have hx2 := (XX_lt h sd.1 hMlt hne).mp hx
      have hK2 : K (sa d) < d := by
        by_cases z : lcp K (cs n) (sa d) (cs (d + 1) - 1) = 0
        · rw [z, Nat.add_zero, Nat.add_zero, hK] at hx2; exact hx2
        · have := lcp_same h sd.1 hMlt hne (show 0 < lcp K (cs n) (sa d) (cs (d + 1) - 1) by omega)
          rw [Nat.add_zero, Nat.add_zero, hK] at this
          have := h.2.2.2.1
          omega
      have h64 := h.2.2.2.1
      have mk := (doc_mark h sd.1).mp (by omega)
      have k2 := (doc_at h sd.1).2.2.2.1 mk
      have e := ih (ow (sa d)) (by omega) (by omega)
      have e2 : sa (ow (sa d)) = sa d := by omega
      have := SA_inj hs (by omega) hdn e2
      omega
theorem SA_mark_iff {K ow cs : Nat → Nat} {n r : Nat} {sa rk : Nat → Nat} (h : DocOk K ow cs n) (hs : SAok K (cs n) sa rk) (hr : r < cs n) : K (sa r) < 64 ↔ r < n := by
  have a := hs.1 r hr
  rw [doc_mark h a.1]
  constructor
  · intro e
    have o := (doc_at h a.1).1
    have m := SA_marks h hs (ow (sa r)) o
    have hm := doc_mono h (show 0 ≤ n by omega) (Nat.le_refl n)
    have := SA_inj hs (i := r) (j := ow (sa r)) hr (by omega) (by omega)
    omega
  · intro q
    have m := SA_marks h hs r q
    have h2 := h.2.1 r q
    have : ow (sa r) = r := doc_own h q (by omega) (by omega)
    rw [this, m]
/-- alike with the one before -/
noncomputable def LL (K : Nat → Nat) (N : Nat) (sa : Nat → Nat) (r : Nat) : Nat := if r = 0 then 0 else lcp K N (sa (r - 1)) (sa r)
theorem LL_succ (K : Nat → Nat) (N : Nat) (sa : Nat → Nat) (r : Nat) : LL K N sa (r + 1) = lcp K N (sa r) (sa (r + 1)) := by
  unfold LL; simp
theorem LL_mark {K ow cs : Nat → Nat} {n r : Nat} {sa rk : Nat → Nat} (h : DocOk K ow cs n) (hs : SAok K (cs n) sa rk) (hr : r ≤ n) (hrn : r < cs n) : LL K (cs n) sa r = 0 := by
  by_cases q : r = 0
  · simp [LL, q]
  · have e : r = (r - 1) + 1 := by omega
    rw [e, LL_succ]
    have a := hs.1 (r - 1) (by omega)
    have b := hs.1 (r - 1 + 1) (by omega)
    have hne : sa (r - 1) ≠ sa (r - 1 + 1) := fun g => by
      have := SA_inj hs (by omega) (by omega) g
      omega
    have m := (doc_len0 h a.1).mp ((SA_mark_iff h hs (by omega)).mpr (by omega))
    have := (lcp_len h a.1 b.1 hne).1
    omega
/-- what two ranks have in common, a step further -/
theorem SA_lcp_step {K ow cs : Nat → Nat} {n i j : Nat} {sa rk : Nat → Nat} (h : DocOk K ow cs n) (hs : SAok K (cs n) sa rk) (hi : i < j) (hj : j + 1 < cs n) :
    lcp K (cs n) (sa i) (sa (j + 1)) = min (lcp K (cs n) (sa i) (sa j)) (LL K (cs n) sa (j + 1)) := by
  rw [LL_succ]
  exact lcp_mid h (Nat.le_of_lt (hs.2.2 i j hi (by omega))) (Nat.le_of_lt (hs.2.2 j (j + 1) (by omega) hj))
theorem SA_lcp_step' {K ow cs : Nat → Nat} {n i j : Nat} {sa rk : Nat → Nat} (h : DocOk K ow cs n) (hs : SAok K (cs n) sa rk) (hi : i + 1 < j) (hj : j < cs n) :
    lcp K (cs n) (sa i) (sa j) = min (LL K (cs n) sa (i + 1)) (lcp K (cs n) (sa (i + 1)) (sa j)) := by
  rw [LL_succ]
  exact lcp_mid h (Nat.le_of_lt (hs.2.2 i (i + 1) (by omega) (by omega))) (Nat.le_of_lt (hs.2.2 (i + 1) j (by omega) hj))
