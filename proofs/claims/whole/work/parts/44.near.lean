/-! near of the class -/
/-- the last with P, and one; 0 if none -/
def lst (P : Nat → Bool) : Nat → Nat
  | 0 => 0
  | n + 1 => if P n then n + 1 else lst P n
theorem lst_le (P : Nat → Bool) (n : Nat) : lst P n ≤ n := by
  induction n with
  | zero => exact Nat.le_refl _
  | succ n ih => simp only [lst]; split <;> omega
theorem lst_none {P : Nat → Bool} {n : Nat} : lst P n = 0 ↔ ∀ i, i < n → P i = false := by
  induction n with
  | zero => exact ⟨fun _ i hi => by omega, fun _ => rfl⟩
  | succ n ih =>
    simp only [lst]
    by_cases q : P n = true
    · rw [if_pos q]
      refine ⟨fun e => by omega, fun h => ?_⟩
      have := h n (by omega)
      rw [q] at this; exact absurd this (by simp)
    · rw [if_neg q, ih]
      refine ⟨fun h i hi => ?_, fun h i hi => h i (by omega)⟩
      by_cases e : i = n
      · rw [e]; simpa using q
      · exact h i (by omega)
theorem lst_some {P : Nat → Bool} {n i : Nat} : lst P n = i + 1 ↔ i < n ∧ P i = true ∧ ∀ j, i < j → j < n → P j = false := by
  induction n with
  | zero => exact ⟨fun e => by simp [lst] at e, fun h => by omega⟩
  | succ n ih =>
    simp only [lst]
    by_cases q : P n = true
    · rw [if_pos q]
      constructor
      · intro e
        have : i = n := by omega
        subst this
        exact ⟨by omega, q, fun j h1 h2 => by omega⟩
      · rintro ⟨h1, h2, h3⟩
        by_cases e : i = n
        · rw [e]
        · have := h3 n (by omega) (by omega)
          rw [q] at this; exact absurd this (by simp)
    · rw [if_neg q, ih]
      constructor
      · rintro ⟨h1, h2, h3⟩
        refine ⟨by omega, h2, fun j a b => ?_⟩
        by_cases e : j = n
        · rw [e]; simpa using q
        · exact h3 j a (by omega)
      · rintro ⟨h1, h2, h3⟩
        have : i ≠ n := fun e => q (by rw [← e]; exact h2)
        exact ⟨by omega, h2, fun j a b => h3 j a (by omega)⟩
theorem lst_congr {P Q : Nat → Bool} {n : Nat} (h : ∀ i, i < n → P i = Q i) : lst P n = lst Q n := by
  induction n with
  | zero => rfl
  | succ n ih => simp only [lst]; rw [h n (by omega), ih (fun i hi => h i (by omega))]
theorem lst_skip {P : Nat → Bool} {a b : Nat} (h : a ≤ b) (hn : ∀ i, a ≤ i → i < b → P i = false) : lst P b = lst P a := by
  induction b with
  | zero => rw [show a = 0 by omega]
  | succ b ih =>
    by_cases e : a = b + 1
    · rw [e]
    · simp only [lst]
      rw [hn b (by omega) (by omega), ih (by omega) (fun i h1 h2 => hn i h1 (by omega))]
      rfl
theorem cnt_skip {P : Nat → Bool} {a b : Nat} (h : a ≤ b) (hn : ∀ i, a ≤ i → i < b → P i = false) : cnt P b = cnt P a := by
  induction b with
  | zero => rw [show a = 0 by omega]
  | succ b ih =>
    by_cases e : a = b + 1
    · rw [e]
    · simp only [cnt]
      rw [hn b (by omega) (by omega), ih (by omega) (fun i h1 h2 => hn i h1 (by omega))]
      rfl
theorem sub_ltI {a b c : Nat} (ha : a < 1000000) (hb : b < 1000000) (hc : c < 1000000) : nI a - nI b < nI c ↔ a < c + b := by
  rw [Int32.lt_iff_toInt_lt, pk_sub_toInt (by omega) (by omega), nI_toInt (by omega)]
  omega
theorem m1_lt {a b : Nat} (ha : a < 1000000) (hb : b < 1000000) : nI a - nI 1 < nI b - nI 1 ↔ a < b := by
  rw [Int32.lt_iff_toInt_lt, pk_sub_toInt (by omega) (by omega), pk_sub_toInt (by omega) (by omega)]
  omega
theorem m1_max {a b : Nat} (ha : a < 1000000) (hb : b < 1000000) : (if nI a - nI 1 < nI b - nI 1 then nI b - nI 1 else nI a - nI 1) = nI (max a b) - nI 1 := by
  by_cases q : a < b
  · rw [if_pos ((m1_lt ha hb).mpr q), Nat.max_eq_right (by omega)]
  · rw [if_neg (fun g => q ((m1_lt ha hb).mp g)), Nat.max_eq_left (by omega)]
theorem neg1 : (-nI 1 : Int32) = nI 0 - nI 1 := by decide
/-- how many bytes are others -/
def chg (K sk : Nat → Nat) (m p : Nat) : Nat := cnt (fun i => decide (K (p + i) ≠ sk i)) m
def nre (K ow cs sk : Nat → Nat) (m j p : Nat) : Bool := decide (1 ≤ m ∧ m ≤ lenf ow cs p ∧ chg K sk m p = j)
def nrl (K ow cs sk : Nat → Nat) (m k p : Nat) : Bool := decide (1 ≤ m ∧ m ≤ lenf ow cs p ∧ chg K sk m p ≤ k)
theorem s_changedAt {text owners starts sb : Nat → Int32} {K ow cs sk : Nat → Nat} {n m p cap : Nat} (h : LibC text owners starts K ow cs n) (hsk : ∀ i, i < m → 64 ≤ sk i ∧ sk i < 320) (hsb : ∀ i, i < m → sb i = tx (sk i)) (hm : m ≤ 200) (hcap : m ≤ cap)
    (hp : p < cs n) (hl : m ≤ lenf ow cs p) {post : Int32 → Prop} (hpost : post (nI (min (chg K sk m p) 4))) : vc_SE_changedAt (nI p) cap (nI m) sb text post := by
  obtain ⟨hd, ht, ho, hst⟩ := h
  have hN := doc_N hd
  have dl := doc_len hd hp
  have key : ∀ f x, x + f = m → cnt (fun i => decide (K (p + i) ≠ sk i)) x ≤ 4 → vc_SE_changedAt_4 (nI p) cap (nI m) sb text post (f + 1) (nI (cnt (fun i => decide (K (p + i) ≠ sk i)) x)) (nI x) := by
    intro f
    induction f with
    | zero =>
      intro x hx hc
      rw [vc_SE_changedAt_4]
      simp (disch := omega) only [li0, li1, li2, li3, li4, li5, li6, li7, li8, li16, li20, li24, li31, li63, li64, li65, li200, li255, li256, li320, li16384, li16448, li65535, li65536, nI_add, nI_subI, nI_mulI, nI_ltI, nI_leI, nI_eq, nI_clamp, vpI, nI_maxN, nI_minN, ls_nI, half_nI, nI_addneg]
      refine ⟨fun _ => ?_, fun q => absurd (by omega) q⟩
      have e : x = m := by omega
      subst e
      rw [show min (chg K sk x p) 4 = cnt (fun i => decide (K (p + i) ≠ sk i)) x from Nat.min_eq_left hc] at hpost
      exact hpost
    | succ f ih =>
      intro x hx hc
      rw [vc_SE_changedAt_4]
      unfold vc_SE_changedAt_46
      simp (disch := omega) only [li0, li1, li2, li3, li4, li5, li6, li7, li8, li16, li20, li24, li31, li63, li64, li65, li200, li255, li256, li320, li16384, li16448, li65535, li65536, nI_add, nI_subI, nI_mulI, nI_ltI, nI_leI, nI_eq, nI_clamp, vpI, nI_maxN, nI_minN, ls_nI, half_nI, nI_addneg]
      refine ⟨fun q => by omega, fun _ => ⟨fun q => ?_, fun q => ⟨by omega, by omega, fun g => ?_, fun g => ?_⟩⟩⟩
      · have mono := cnt_step (fun i => decide (K (p + i) ≠ sk i)) (show x ≤ m by omega)
        rw [show min (chg K sk m p) 4 = cnt (fun i => decide (K (p + i) ≠ sk i)) x by unfold chg; omega] at hpost
        exact hpost
      · rw [ht _ (by omega), hsb _ (by omega), tx_eq (by have := doc_K hd (show p + x < cs n by omega); omega) (by have := hsk x (by omega); omega)] at g
        have e : cnt (fun i => decide (K (p + i) ≠ sk i)) x = cnt (fun i => decide (K (p + i) ≠ sk i)) (x + 1) := by
          show _ = cnt (fun i => decide (K (p + i) ≠ sk i)) x + (if decide (K (p + x) ≠ sk x) = true then 1 else 0)
          rw [if_neg (by simpa using g)]; rfl
        rw [e]
        exact ih (x + 1) (by omega) (by omega)
      · rw [ht _ (by omega), hsb _ (by omega), tx_eq (by have := doc_K hd (show p + x < cs n by omega); omega) (by have := hsk x (by omega); omega)] at g
        have e : cnt (fun i => decide (K (p + i) ≠ sk i)) x + 1 = cnt (fun i => decide (K (p + i) ≠ sk i)) (x + 1) := by
          show _ = cnt (fun i => decide (K (p + i) ≠ sk i)) x + (if decide (K (p + x) ≠ sk x) = true then 1 else 0)
          rw [if_pos (by simpa using g)]
        rw [e]
        exact ih (x + 1) (by omega) (by omega)
  exact ⟨m + 1, key m 0 (by omega) (by simp [cnt])⟩
def NearC (nh nl : Nat → Int32) (K ow cs sk : Nat → Nat) (n m : Nat) : Prop :=
  ∀ k, k < 4 → nh k = nI (cnt (nrl K ow cs sk m k) (cs n)) ∧ nl k = nI (lst (nrl K ow cs sk m k) (cs n)) - nI 1
theorem nrl_succ (K ow cs sk : Nat → Nat) (m k p : Nat) : nrl K ow cs sk m (k + 1) p = (nre K ow cs sk m (k + 1) p || nrl K ow cs sk m k p) := by
  unfold nrl nre
  by_cases a : 1 ≤ m ∧ m ≤ lenf ow cs p
  · by_cases b : chg K sk m p ≤ k
    · simp [a, b, Nat.le_succ_of_le b]
    · by_cases c : chg K sk m p = k + 1
      · simp [a, c]
      · have : ¬ chg K sk m p ≤ k + 1 := by omega
        simp [a, b, c, this]
  · have h1 : ∀ P : Prop, ¬ (1 ≤ m ∧ m ≤ lenf ow cs p ∧ P) := fun P h => a ⟨h.1, h.2.1⟩
    simp only [h1, decide_false, Bool.or_false]
theorem nrl_cnt (K ow cs sk : Nat → Nat) (m k : Nat) : ∀ N, cnt (nrl K ow cs sk m (k + 1)) N = cnt (nre K ow cs sk m (k + 1)) N + cnt (nrl K ow cs sk m k) N := by
  intro N
  induction N with
  | zero => rfl
  | succ N ih =>
    simp only [cnt]
    rw [ih, nrl_succ]
    have dj : nre K ow cs sk m (k + 1) N = true → nrl K ow cs sk m k N = false := by
      unfold nre nrl
      simp only [decide_eq_true_eq, decide_eq_false_iff_not]
      omega
    by_cases a : nre K ow cs sk m (k + 1) N = true
    · rw [dj a, a]; simp; omega
    · have a' : nre K ow cs sk m (k + 1) N = false := by simpa using a
      rw [a']; simp; omega
theorem nrl_lst (K ow cs sk : Nat → Nat) (m k : Nat) : ∀ N, lst (nrl K ow cs sk m (k + 1)) N = max (lst (nre K ow cs sk m (k + 1)) N) (lst (nrl K ow cs sk m k) N) := by
  intro N
  induction N with
  | zero => rfl
  | succ N ih =>
    simp only [lst]
    rw [ih, nrl_succ]
    have l1 := lst_le (nre K ow cs sk m (k + 1)) N
    have l2 := lst_le (nrl K ow cs sk m k) N
    by_cases a : nre K ow cs sk m (k + 1) N = true <;> by_cases b : nrl K ow cs sk m k N = true
    · rw [a, b]; simp
    · rw [a]; simp [b]; omega
    · rw [b]; simp [a]; omega
    · simp [a, b]
theorem nrl_zero (K ow cs sk : Nat → Nat) (m : Nat) : nrl K ow cs sk m 0 = nre K ow cs sk m 0 := by
  funext p
  unfold nrl nre
  simp
theorem s_learnNear {text owners starts sb : Nat → Int32} {K ow cs sk : Nat → Nat} {n m : Nat} (h : LibC text owners starts K ow cs n) (hsk : ∀ i, i < m → 64 ≤ sk i ∧ sk i < 320) (hsb : ∀ i, i < m → sb i = tx (sk i)) (hm1 : 1 ≤ m) (hm : m ≤ 200)
    {nk : Int32} {nh nl : Nat → Int32} (hk : nk = 0 ∨ (nk = 1 ∧ NearC nh nl K ow cs sk n m)) {post : Int32 → (Nat → Int32) → (Nat → Int32) → Prop} (hp : ∀ nh' nl', NearC nh' nl' K ow cs sk n m → post 1 nh' nl') :
    vc_SE_learnNear 200 (nI m) sb (nI n) text starts post nk nh nl := by
  have hd := h.1
  have hst := h.2.2.2
  have hN := doc_N hd
  have h64 := hd.2.2.2.1
  have hcb : ∀ j p, cnt (nre K ow cs sk m j) p ≤ p := fun j p => cnt_le _ _
  have hlb : ∀ j p, lst (nre K ow cs sk m j) p ≤ p := fun j p => lst_le _ _
  have key98 : ∀ nh nl : Nat → Int32, (∀ j, j < 4 → nh j = nI (cnt (nre K ow cs sk m j) (cs n)) ∧ nl j = nI (lst (nre K ow cs sk m j) (cs n)) - nI 1) → ∃ j : Nat, vc_SE_learnNear_98 200 (nI m) sb (nI n) text starts post j (nI 1) 1 nh nl := by
    intro nh nl h0
    have loop : ∀ f x, x + f = 4 → 1 ≤ x → ∀ nh nl : Nat → Int32, (∀ j, j < x → nh j = nI (cnt (nrl K ow cs sk m j) (cs n)) ∧ nl j = nI (lst (nrl K ow cs sk m j) (cs n)) - nI 1) → (∀ j, x ≤ j → j < 4 → nh j = nI (cnt (nre K ow cs sk m j) (cs n)) ∧ nl j = nI (lst (nre K ow cs sk m j) (cs n)) - nI 1) →
        vc_SE_learnNear_98 200 (nI m) sb (nI n) text starts post (f + 1) (nI x) 1 nh nl := by
      intro f
      induction f with
      | zero =>
        intro x hx h1 nh nl a b
        rw [vc_SE_learnNear_98]
        rw [li3, nI_ltI (by omega) (by omega)]
        exact ⟨fun _ => hp nh nl (fun k hk => a k (by omega)), fun q => absurd (by omega) q⟩
      | succ f ih =>
        intro x hx h1 nh nl a b
        have ax := a (x - 1) (by omega)
        have bx := b x (Nat.le_refl _) (by omega)
        have e1 : x - 1 + 1 = x := by omega
        have c1 := nrl_cnt K ow cs sk m (x - 1) (cs n)
        have c2 := nrl_lst K ow cs sk m (x - 1) (cs n)
        rw [e1] at c1 c2
        have l1 := lst_le (nrl K ow cs sk m (x - 1)) (cs n)
        have l2 := hlb x (cs n)
        rw [vc_SE_learnNear_98]
        rw [li3, nI_ltI (by omega) (by omega)]
        refine ⟨fun q => by omega, fun _ => ?_⟩
        have ei : nI x - 1 = nI (x - 1) := nI_subI h1
        rw [ei, nI_clamp (by omega), nI_clamp (by omega), ax.1, ax.2, bx.1, bx.2, m1_max (by omega) (by omega), nI_add, ← c1, ← c2]
        refine ⟨(vpI (by omega)).mpr (by omega), (vpI (by omega)).mpr (by omega), (vpI (by omega)).mpr (by omega), (vpI (by omega)).mpr (by omega), (vpI (by omega)).mpr (by omega), (vpI (by omega)).mpr (by omega), ?_⟩
        rw [nI_1]
        refine ih (x + 1) (by omega) (by omega) _ _ (fun j hj => ?_) (fun j hj hj2 => ?_)
        · by_cases e : j = x
          · rw [e, upS, upS]; exact ⟨rfl, rfl⟩
          · rw [upN e, upN e]; exact a j (by omega)
        · rw [upN (by omega), upN (by omega)]; exact b j (by omega) hj2
    refine ⟨4, loop 3 1 (by omega) (by omega) nh nl (fun j hj => ?_) (fun j hj hj2 => h0 j hj2)⟩
    have : j = 0 := by omega
    subst this
    rw [nrl_zero]
    exact h0 0 (by omega)
  have key31 : ∀ f d, d + f = n → ∀ nh nl : Nat → Int32, (∀ j, j < 4 → nh j = nI (cnt (nre K ow cs sk m j) (cs d)) ∧ nl j = nI (lst (nre K ow cs sk m j) (cs d)) - nI 1) → vc_SE_learnNear_31 200 (nI m) sb (nI n) text starts post (f + 1) (nI d) 1 nh nl := by
    intro f
    induction f with
    | zero =>
      intro d hf nh nl h0
      have e : d = n := by omega
      subst e
      rw [vc_SE_learnNear_31]
      rw [nI_leI (by omega) (by omega)]
      exact ⟨fun _ => key98 nh nl h0, fun q => absurd (Nat.le_refl _) q⟩
    | succ f ih =>
      intro d hf nh nl h0
      have dlt : d < n := by omega
      have c2 := hd.2.1 d dlt
      have c3 := doc_mono hd (show d + 1 ≤ n by omega) (Nat.le_refl n)
      have key69 : ∀ g p, p + g = cs (d + 1) → cs d ≤ p → ∀ nh nl : Nat → Int32, (∀ j, j < 4 → nh j = nI (cnt (nre K ow cs sk m j) p) ∧ nl j = nI (lst (nre K ow cs sk m j) p) - nI 1) →
          vc_SE_learnNear_69 200 (nI m) sb (nI n) text starts post (fun x1' z_nearKnown' z_nearHits' z_nearLast' => vc_SE_learnNear_31 200 (nI m) sb (nI n) text starts post (f + 1) x1' z_nearKnown' z_nearHits' z_nearLast') (g + 1) (nI d) (nI (cs (d + 1) - 1) - nI m) (nI p) 1 nh nl := by
        intro g
        have out : ∀ p, cs d ≤ p → p ≤ cs (d + 1) → cs (d + 1) - 1 < p + m → ∀ nh nl : Nat → Int32, (∀ j, j < 4 → nh j = nI (cnt (nre K ow cs sk m j) p) ∧ nl j = nI (lst (nre K ow cs sk m j) p) - nI 1) → vc_SE_learnNear_31 200 (nI m) sb (nI n) text starts post (f + 1) (nI d + 1) 1 nh nl := by
          intro p p1 p2 p3 nh nl h0
          rw [li1, nI_add]
          refine ih (d + 1) (by omega) nh nl (fun j hj => ?_)
          have hno : ∀ i, p ≤ i → i < cs (d + 1) → nre K ow cs sk m j i = false := by
            intro i i1 i2
            have o := doc_own hd dlt (show cs d ≤ i by omega) i2
            unfold nre lenf
            simp only [decide_eq_false_iff_not]
            rw [o]
            omega
          rw [cnt_skip p2 hno, lst_skip p2 hno]
          exact h0 j hj
        induction g with
        | zero =>
          intro p hg hpd nh nl h0
          rw [vc_SE_learnNear_69, sub_ltI (by omega) (by omega) (by omega)]
          exact ⟨fun q => out p hpd (by omega) q nh nl h0, fun q => absurd (by omega) q⟩
        | succ g ih2 =>
          intro p hg hpd nh nl h0
          rw [vc_SE_learnNear_69, sub_ltI (by omega) (by omega) (by omega)]
          refine ⟨fun q => out p hpd (by omega) q nh nl h0, fun q => ?_⟩
          have o := doc_own hd dlt hpd (show p < cs (d + 1) by omega)
          have hl : m ≤ lenf ow cs p := by unfold lenf; rw [o]; omega
          have plt : p < cs n := by omega
          refine s_changedAt h hsk hsb hm hm plt hl ?_
          unfold vc_SE_noteNear
          have hcnt : ∀ j, cnt (nre K ow cs sk m j) (p + 1) = cnt (nre K ow cs sk m j) p + (if chg K sk m p = j then 1 else 0) := by
            intro j
            show cnt (nre K ow cs sk m j) p + (if nre K ow cs sk m j p = true then 1 else 0) = _
            congr 1
            unfold nre
            simp only [hm1, hl, true_and, decide_eq_true_eq]
          have hlst : ∀ j, lst (nre K ow cs sk m j) (p + 1) = if chg K sk m p = j then p + 1 else lst (nre K ow cs sk m j) p := by
            intro j
            show (if nre K ow cs sk m j p = true then p + 1 else lst (nre K ow cs sk m j) p) = _
            unfold nre
            simp only [hm1, hl, true_and, decide_eq_true_eq]
          rw [li3, nI_ltI (by omega) (by omega), li1, nI_add]
          refine ⟨fun q2 => ih2 (p + 1) (by omega) (by omega) nh nl (fun j hj => ?_), fun q2 => ?_⟩
          · rw [hcnt, hlst, if_neg (by omega), if_neg (by omega)]
            exact h0 j hj
          · have ec : min (chg K sk m p) 4 = chg K sk m p := by omega
            have b1 := hcb (chg K sk m p) p
            rw [ec, nI_clamp (by omega), (h0 (chg K sk m p) (by omega)).1, nI_add]
            refine ⟨(vpI (by omega)).mpr (by omega), (vpI (by omega)).mpr (by omega), (vpI (by omega)).mpr (by omega), ih2 (p + 1) (by omega) (by omega) _ _ (fun j hj => ?_)⟩
            rw [hcnt, hlst]
            by_cases e : j = chg K sk m p
            · rw [e, upS, upS, if_pos rfl, if_pos rfl, nI_subI (by omega), Nat.add_sub_cancel]
              exact ⟨rfl, rfl⟩
            · rw [upN e, upN e, if_neg (Ne.symm e), if_neg (Ne.symm e)]
              exact h0 j hj
      rw [vc_SE_learnNear_31]
      rw [nI_leI (by omega) (by omega)]
      refine ⟨fun q => by omega, fun _ => ?_⟩
      unfold vc_LB_endOf
      rw [li1, nI_add, nI_clamp (by omega), nI_clamp (by omega), hst _ (by omega), hst _ (by omega), nI_subI (by omega)]
      exact ⟨(vpI (by omega)).mpr (by omega), (vpI (by omega)).mpr (by omega), cs (d + 1) - cs d + 1, key69 (cs (d + 1) - cs d) (cs d) (by omega) (Nat.le_refl _) nh nl h0⟩
  unfold vc_SE_learnNear
  rcases hk with e | ⟨e, hc⟩
  · rw [e]
    refine ⟨fun _ => s_fill0 (by omega) (fun z1 hz1 => s_fill0 (by omega) (fun z2 hz2 => ?_)), fun q => absurd rfl q⟩
    refine ⟨n + 1, key31 n 0 (by omega) z1 z2 (fun j hj => ?_)⟩
    rw [hz1 j, hz2 j, if_pos hj, if_pos hj, hd.1]
    exact ⟨rfl, neg1⟩
  · rw [e]
    exact ⟨fun q => absurd q (by decide), fun _ => hp nh nl hc⟩
