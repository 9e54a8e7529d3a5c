/-! the window of the class -/
/-- least of ab between l (outside) and l + k -/
def mn (ab : Nat → Nat) (l : Nat) : Nat → Nat
  | 0 => 100000
  | k + 1 => min (mn ab l k) (ab (l + k + 1))
theorem mn_le {ab : Nat → Nat} {l : Nat} : ∀ k r, l < r → r ≤ l + k → mn ab l k ≤ ab r := by
  intro k
  induction k with
  | zero => intro r h1 h2; omega
  | succ k ih =>
    intro r h1 h2
    show min _ _ ≤ _
    by_cases e : r = l + k + 1
    · rw [e]; omega
    · have := ih r h1 (by omega); omega
theorem mn_ge {ab : Nat → Nat} {l v : Nat} (hv : v ≤ 100000) : ∀ k, (∀ r, l < r → r ≤ l + k → v ≤ ab r) → v ≤ mn ab l k := by
  intro k
  induction k with
  | zero => intro _; exact hv
  | succ k ih =>
    intro h
    show _ ≤ min _ _
    have := ih (fun r h1 h2 => h r h1 (by omega))
    have := h (l + k + 1) (by omega) (by omega)
    omega
/-- the best of the candidates, the first of them -/
def bl (C : Nat → Nat) : Nat → Nat
  | 0 => 0
  | k + 1 => if bl C k < C k then C k else bl C k
def bp (C : Nat → Nat) : Nat → Nat
  | 0 => 0
  | k + 1 => if bl C k < C k then k else bp C k
theorem bl_at {C : Nat → Nat} : ∀ k, 0 < bl C k → bp C k < k ∧ C (bp C k) = bl C k := by
  intro k
  induction k with
  | zero => intro h; simp [bl] at h
  | succ k ih =>
    intro h
    simp only [bl, bp] at h ⊢
    by_cases q : bl C k < C k
    · rw [if_pos q, if_pos q]; exact ⟨by omega, rfl⟩
    · rw [if_neg q] at h
      rw [if_neg q, if_neg q]
      have := ih h
      exact ⟨by omega, this.2⟩
theorem bl_skip {C : Nat → Nat} {a b : Nat} (h : a ≤ b) (hz : ∀ i, a ≤ i → i < b → C i = 0) : bl C b = bl C a ∧ bp C b = bp C a := by
  induction b with
  | zero => rw [show a = 0 by omega]; exact ⟨rfl, rfl⟩
  | succ b ih =>
    by_cases e : a = b + 1
    · rw [e]; exact ⟨rfl, rfl⟩
    · have := ih (by omega) (fun i h1 h2 => hz i h1 (by omega))
      simp only [bl, bp]
      rw [hz b (by omega) (by omega), if_neg (by omega), if_neg (by omega)]
      exact this
/-- the candidate of a left border: what all have in common up to the first right border with enough held -/
noncomputable def Cg (held : Nat → Nat → Nat) (ab : Nat → Nat) (n N m : Nat) (i : Nat) : Nat :=
  if h : ∃ r, r < N ∧ n + i < r ∧ held (n + i) r < m ∧ m ≤ held (n + i) (r + 1) then mn ab (n + i) (Classical.choose h - (n + i)) else 0
def Held (held : Nat → Nat → Nat) : Prop :=
  (∀ a, held a a = 0) ∧ (∀ a b, a ≤ b → held a b ≤ held a (b + 1) ∧ held a (b + 1) ≤ held a b + 1) ∧ (∀ a b, a < b → held (a + 1) b ≤ held a b ∧ held a b ≤ held (a + 1) b + 1)
theorem held_mono {held : Nat → Nat → Nat} (h : Held held) {a b c : Nat} (hab : a ≤ b) (hbc : b ≤ c) : held a b ≤ held a c := by
  induction c with
  | zero => rw [show b = 0 by omega]; exact Nat.le_refl _
  | succ c ih =>
    by_cases e : b = c + 1
    · rw [e]; exact Nat.le_refl _
    · have := ih (by omega)
      have := (h.2.1 a c (by omega)).1
      omega
theorem held_monol {held : Nat → Nat → Nat} (h : Held held) {a a' b : Nat} (h1 : a ≤ a') (h2 : a' ≤ b) : held a' b ≤ held a b := by
  induction a' with
  | zero => rw [show a = 0 by omega]; exact Nat.le_refl _
  | succ a' ih =>
    by_cases e : a = a' + 1
    · rw [e]; exact Nat.le_refl _
    · have := ih (by omega) (by omega)
      have := (h.2.2 a' b (by omega)).1
      omega
theorem held_le {held : Nat → Nat → Nat} (h : Held held) {a b : Nat} (hab : a ≤ b) : held a b ≤ b - a := by
  induction b with
  | zero => rw [show a = 0 by omega, h.1]; omega
  | succ b ih =>
    by_cases e : a = b + 1
    · rw [e, h.1]; omega
    · have := ih (by omega)
      have := (h.2.1 a b (by omega)).2
      omega
theorem Cg_at {held : Nat → Nat → Nat} {ab : Nat → Nat} {n N m l r : Nat} (h : Held held) (hl : n ≤ l) (h1 : l < r) (h2 : r < N) (h3 : held l r < m) (h4 : m ≤ held l (r + 1)) : Cg held ab n N m (l - n) = mn ab l (r - l) := by
  have e : n + (l - n) = l := by omega
  have hex : ∃ r, r < N ∧ n + (l - n) < r ∧ held (n + (l - n)) r < m ∧ m ≤ held (n + (l - n)) (r + 1) := by rw [e]; exact ⟨r, h2, h1, h3, h4⟩
  unfold Cg
  rw [dif_pos hex]
  have c := Classical.choose_spec hex
  generalize Classical.choose hex = w at c ⊢
  rw [e] at c ⊢
  have : w = r := by
    by_cases q : w < r
    · have := held_mono h (a := l) (b := w + 1) (c := r) (by omega) (by omega)
      omega
    · by_cases q2 : r < w
      · have := held_mono h (a := l) (b := r + 1) (c := w) (by omega) (by omega)
        omega
      · omega
  rw [this]
theorem Cg_zero {held : Nat → Nat → Nat} {ab : Nat → Nat} {n N m l : Nat} (h : Held held) (hl : n ≤ l) (hN : l ≤ N) (h3 : held l N < m) : Cg held ab n N m (l - n) = 0 := by
  have e : n + (l - n) = l := by omega
  unfold Cg
  rw [dif_neg]
  rw [e]
  rintro ⟨r, r1, r2, r3, r4⟩
  have := held_mono h (a := l) (b := r + 1) (c := N) (by omega) (by omega)
  omega
theorem Cg_le {held : Nat → Nat → Nat} {ab : Nat → Nat} {n N m i : Nat} (hpos : 0 < Cg held ab n N m i) : n + i + 1 < N ∧ Cg held ab n N m i ≤ ab (n + i + 1) := by
  unfold Cg at hpos ⊢
  by_cases hex : ∃ r, r < N ∧ n + i < r ∧ held (n + i) r < m ∧ m ≤ held (n + i) (r + 1)
  · rw [dif_pos hex] at hpos ⊢
    have c := Classical.choose_spec hex
    exact ⟨by omega, mn_le _ (n + i + 1) (by omega) (by omega)⟩
  · rw [dif_neg hex] at hpos
    omega
/-- the ranks kept, rising, with what they have in common rising -/
def DQ (ab q : Nat → Nat) (n f t left right : Nat) : Prop :=
  f ≤ t ∧ t + n ≤ right + 1 ∧ (∀ i j, f ≤ i → i < j → j < t → q i < q j ∧ ab (q i) < ab (q j)) ∧ (∀ i, f ≤ i → i < t → n ≤ q i ∧ q i ≤ right) ∧
  (∀ r, left ≤ r → r ≤ right → n ≤ r → ∃ i, f ≤ i ∧ i < t ∧ r ≤ q i ∧ ab (q i) ≤ ab r)
theorem s_pushLeast {abz z : Nat → Int32} {ab q : Nat → Nat} {n N f t left right : Nat} (hN : N ≤ 16448) (hr : right < N) (hnr : n ≤ right) (habz : ∀ r, r < N → abz r = nI (ab r)) (hab : ∀ r, r < N → ab r < 20000)
    (hft : f ≤ t) (htb : t + n ≤ right) (hq1 : ∀ i j, f ≤ i → i < j → j < t → q i < q j ∧ ab (q i) < ab (q j)) (hq2 : ∀ i, f ≤ i → i < t → n ≤ q i ∧ q i < right)
    (hq3 : ∀ r, left ≤ r → r < right → n ≤ r → ∃ i, f ≤ i ∧ i < t ∧ r ≤ q i ∧ ab (q i) ≤ ab r) (hz : ∀ i, f ≤ i → i < t → z i = nI (q i))
    {post : Int32 → (Nat → Int32) → Prop} (hp : ∀ t' z' q', (∀ i, f ≤ i → i < t' → z' i = nI (q' i)) → DQ ab q' n f t' left right → post (nI t') z') :
    vc_WI_pushLeast (nI right) (nI f) abz post (nI t) z := by
  have habr := hab right hr
  have fin : ∀ s, f ≤ s → s ≤ t → (∀ i, s ≤ i → i < t → ab right ≤ ab (q i)) → (f < s → ab (q (s - 1)) < ab right) → vc_WI_pushLeast_57 (nI right) (nI f) abz post (nI s) z := by
    intro s h1 h2 h3 h4
    unfold vc_WI_pushLeast_57
    rw [nI_clamp (by omega), nI_1]
    refine ⟨(vpI (by omega)).mpr (by omega), hp (s + 1) _ (fun i => if i = s then right else q i) (fun i i1 i2 => ?_) ⟨by omega, by omega, fun i j i1 i2 i3 => ?_, fun i i1 i2 => ?_, fun r r1 r2 r3 => ?_⟩⟩
    · show upd z s (nI right) i = nI (if i = s then right else q i)
      by_cases e : i = s
      · rw [e, upS, if_pos rfl]
      · rw [upN e, if_neg e]; exact hz i i1 (by omega)
    · show (if i = s then right else q i) < (if j = s then right else q j) ∧ ab (if i = s then right else q i) < ab (if j = s then right else q j)
      rw [if_neg (show ¬ i = s by omega)]
      by_cases e : j = s
      · rw [if_pos e]
        refine ⟨(hq2 i i1 (by omega)).2, ?_⟩
        have := h4 (by omega)
        by_cases e2 : i = s - 1
        · rw [e2]; exact this
        · have := (hq1 i (s - 1) i1 (by omega) (by omega)).2
          omega
      · rw [if_neg e]
        exact hq1 i j i1 i2 (by omega)
    · show n ≤ (if i = s then right else q i) ∧ (if i = s then right else q i) ≤ right
      by_cases e : i = s
      · rw [if_pos e]; omega
      · rw [if_neg e]
        have := hq2 i i1 (by omega)
        omega
    · by_cases e : r = right
      · refine ⟨s, h1, by omega, ?_⟩
        show r ≤ (if s = s then right else q s) ∧ ab (if s = s then right else q s) ≤ ab r
        rw [if_pos rfl, e]
        exact ⟨Nat.le_refl _, Nat.le_refl _⟩
      · obtain ⟨i, i1, i2, i3, i4⟩ := hq3 r r1 (by omega) r3
        by_cases g : i < s
        · refine ⟨i, i1, by omega, ?_⟩
          show r ≤ (if i = s then right else q i) ∧ ab (if i = s then right else q i) ≤ ab r
          rw [if_neg (by omega)]
          exact ⟨i3, i4⟩
        · refine ⟨s, h1, by omega, ?_⟩
          show r ≤ (if s = s then right else q s) ∧ ab (if s = s then right else q s) ≤ ab r
          rw [if_pos rfl]
          have := h3 i (by omega) i2
          omega
  have key : ∀ k, f + k ≤ t → (∀ i, f + k ≤ i → i < t → ab right ≤ ab (q i)) → vc_WI_pushLeast_10 (nI right) (nI f) abz post (k + 1) (nI (ab right)) (nI (f + k)) z := by
    intro k
    induction k with
    | zero =>
      intro h1 h3
      rw [vc_WI_pushLeast_10, nI_leI (by omega) (by omega)]
      exact ⟨fun _ => fin f (Nat.le_refl _) hft h3 (fun g => by omega), fun g => absurd (by omega) g⟩
    | succ k ih =>
      intro h1 h3
      have hb := hq2 (f + k) (by omega) (by omega)
      have hb2 := hab (q (f + k)) (by omega)
      have es : nI (f + (k + 1)) - 1 = nI (f + k) := nI_subI (a := f + (k + 1)) (b := 1) (by omega)
      rw [vc_WI_pushLeast_10, nI_leI (by omega) (by omega), es, nI_clamp (by omega), hz _ (by omega) (by omega), nI_clamp (by omega), habz _ (by omega), nI_ltI (by omega) (by omega)]
      refine ⟨fun g => by omega, fun _ => ⟨(vpI (by omega)).mpr (by omega), (vpI (by omega)).mpr (by omega), fun g => fin (f + (k + 1)) (by omega) h1 h3 (fun _ => g), fun g => ih (by omega) (fun i i1 i2 => ?_)⟩⟩
      by_cases e : i = f + k
      · rw [e]; omega
      · exact h3 i (by omega) i2
  unfold vc_WI_pushLeast
  rw [nI_clamp (by omega), habz _ hr]
  refine ⟨(vpI (by omega)).mpr (by omega), t - f + 1, ?_⟩
  have := key (t - f) (by omega) (fun i i1 i2 => by omega)
  rw [show f + (t - f) = t by omega] at this
  exact this
theorem s_keepBetter {abz z soz : Nat → Int32} {ab q sa : Nat → Nat} {n N f t left right : Nat} (hN : N ≤ 16448) (hr : right < N) (hlr : left < right) (hnl : n ≤ left) (habz : ∀ r, r < N → abz r = nI (ab r)) (hab : ∀ r, r < N → ab r < 20000) (hso : ∀ k, k < N → soz k = nI (sa k))
    (hz : ∀ i, f ≤ i → i < t → z i = nI (q i)) (hq : DQ ab q n f t left right) {C : Nat → Nat} {k : Nat} (hC : C k = mn ab left (right - left)) (hk : k = left - n) (hbl : bl C k < 20000) {bpz : Int32} (hbp : bpz = if bl C k = 0 then -nI 1 else nI (sa (n + bp C k)))
    {post : Int32 → Int32 → Int32 → Prop} (hp : ∀ f' bpz', DQ ab q n f' t (left + 1) right → f ≤ f' → (bpz' = if bl C (k + 1) = 0 then -nI 1 else nI (sa (n + bp C (k + 1)))) → post bpz' (nI (bl C (k + 1))) (nI f')) :
    vc_WI_keepBetter (nI left) (nI t) soz abz z post bpz (nI (bl C k)) (nI f) := by
  obtain ⟨d1, d2, d3, d4, d5⟩ := hq
  -- the first behind left
  have fin : ∀ f', f ≤ f' → f' < t → left < q f' → (∀ i, f ≤ i → i < f' → q i ≤ left) → vc_WI_keepBetter_37 (nI left) (nI t) soz abz z post bpz (nI (bl C k)) (nI f') := by
    intro f' h1 h2 h3 h4
    have b1 := d4 f' h1 h2
    have b2 := hab (q f') (by omega)
    have hmin : ab (q f') = mn ab left (right - left) := by
      have x1 : mn ab left (right - left) ≤ ab (q f') := mn_le _ _ h3 (by omega)
      have x2 : ab (q f') ≤ mn ab left (right - left) := mn_ge (by omega) _ (fun r r1 r2 => by
        obtain ⟨i, i1, i2, i3, i4⟩ := d5 r (by omega) (by omega) (by omega)
        have : f' ≤ i := by
          by_cases g : i < f'
          · have := h4 i i1 g; omega
          · omega
        by_cases e : i = f'
        · rw [← e]; exact i4
        · have := (d3 f' i h1 (by omega) i2).2
          omega)
      omega
    have hdq : DQ ab q n f' t (left + 1) right := by
      refine ⟨by omega, d2, fun i j i1 => d3 i j (by omega), fun i i1 => d4 i (by omega), fun r r1 r2 r3 => ?_⟩
      obtain ⟨i, i1, i2, i3, i4⟩ := d5 r (by omega) r2 r3
      refine ⟨i, ?_, i2, i3, i4⟩
      by_cases g : i < f'
      · have := h4 i i1 g; omega
      · omega
    unfold vc_WI_keepBetter_37 vc_WI_keepBetter_69
    rw [nI_leI (by omega) (by omega)]
    refine ⟨fun g => by omega, fun _ => ?_⟩
    rw [nI_clamp (by omega), hz f' h1 h2, nI_clamp (by omega), habz _ (by omega), nI_leI (by omega) (by omega), nI_clamp (by omega), hso left (by omega)]
    refine ⟨(vpI (by omega)).mpr (by omega), (vpI (by omega)).mpr (by omega), fun g => ?_, fun g => ⟨(vpI (by omega)).mpr (by omega), ?_⟩⟩
    · have e1 : bl C (k + 1) = bl C k := by
        show (if bl C k < C k then _ else _) = _
        rw [if_neg (by omega)]
      have e2 : bp C (k + 1) = bp C k := by
        show (if bl C k < C k then _ else _) = _
        rw [if_neg (by omega)]
      rw [← e1]
      exact hp f' bpz hdq h1 (by rw [e1, e2]; exact hbp)
    · have e1 : bl C (k + 1) = ab (q f') := by
        show (if bl C k < C k then _ else _) = _
        rw [if_pos (by omega)]; omega
      have e2 : bp C (k + 1) = k := by
        show (if bl C k < C k then _ else _) = _
        rw [if_pos (by omega)]
      rw [← e1]
      refine hp f' _ hdq h1 ?_
      rw [if_neg (by omega), e2]
      congr 2
      omega
  have key : ∀ g f', f' + g = t → f ≤ f' → (∀ i, f ≤ i → i < f' → q i ≤ left) → vc_WI_keepBetter_0 (nI left) (nI t) soz abz z post (g + 1) bpz (nI (bl C k)) (nI f') := by
    intro g
    induction g with
    | zero =>
      intro f' h1 h2 h4
      obtain ⟨i, i1, i2, i3, i4⟩ := d5 right (by omega) (Nat.le_refl _) (by omega)
      have := h4 i i1 (by omega)
      omega
    | succ g ih =>
      intro f' h1 h2 h4
      have b1 := d4 f' h2 (by omega)
      rw [vc_WI_keepBetter_0, nI_leI (by omega) (by omega), nI_clamp (by omega), hz f' h2 (by omega), nI_ltI (by omega) (by omega), nI_1]
      refine ⟨fun c => by omega, fun _ => ⟨(vpI (by omega)).mpr (by omega), fun c => fin f' h2 (by omega) c h4, fun c => ih (f' + 1) (by omega) (by omega) (fun i i1 i2 => ?_)⟩⟩
      by_cases e : i = f'
      · rw [e]; omega
      · exact h4 i i1 (by omega)
  exact ⟨t - f + 1, key (t - f) f (by omega) (Nat.le_refl _) (fun i i1 i2 => by omega)⟩
theorem s_slide {abz soz owz : Nat → Int32} {ab sa : Nat → Nat} {n N m : Nat} {fl : Int32} {held : Nat → Nat → Nat} {Ins : Nat → Nat → (Nat → Int32) → Prop} (hN : N ≤ 16448) (hn : n ≤ N) (hm : 2 ≤ m) (hmb : m ≤ 1000)
    (habz : ∀ r, r < N → abz r = nI (ab r)) (hab : ∀ r, r < N → ab r < 20000) (hso : ∀ k, k < N → soz k = nI (sa k)) (hH : Held held)
    (hI0 : ∀ z : Nat → Int32, (∀ i, i < 64 → z i = nI 0) → Ins n n z)
    (hE : ∀ a b z, n ≤ a → a ≤ b → b < N → Ins a b z → ∀ post : Int32 → (Nat → Int32) → Prop, (∀ z', Ins a (b + 1) z' → post (nI (held a (b + 1) - held a b)) z') → vc_WI_enter (nI b) fl owz soz post z)
    (hL : ∀ a b z, n ≤ a → a < b → b ≤ N → Ins a b z → ∀ post : Int32 → (Nat → Int32) → Prop, (∀ z', Ins (a + 1) b z' → post (nI (held a b - held (a + 1) b)) z') → vc_WI_leave (nI a) fl owz soz post z)
    {post : Int32 → Int32 → Int32 → Int32 → (Nat → Int32) → (Nat → Int32) → Prop} {b0 b1 b2 b3 : Int32} {in0 z0 : Nat → Int32}
    (hp : ∀ bpz f t ins z, (bpz = if bl (Cg held ab n N m) (N - n) = 0 then -nI 1 else nI (sa (n + bp (Cg held ab n N m) (N - n)))) → post bpz (nI (bl (Cg held ab n N m) (N - n))) f t ins z) :
    vc_WI_slide (nI m) fl owz (nI n) (nI N) soz abz post b0 b1 b2 b3 in0 z0 := by
  have hblb : ∀ k, bl (Cg held ab n N m) k < 20000 := by
    intro k
    by_cases q : bl (Cg held ab n N m) k = 0
    · omega
    · have a := bl_at (C := Cg held ab n N m) k (by omega)
      have b := Cg_le (held := held) (ab := ab) (n := n) (N := N) (m := m) (i := bp (Cg held ab n N m) k) (by omega)
      have := hab _ b.1
      omega
  have key48 : ∀ (g right left f t : Nat) (bpz : Int32) (ins z : Nat → Int32) (q : Nat → Nat), right + g = N → n ≤ left → left ≤ right → held left right < m → (bpz = if bl (Cg held ab n N m) (left - n) = 0 then -nI 1 else nI (sa (n + bp (Cg held ab n N m) (left - n)))) → Ins left right ins →
      f ≤ t → t + n ≤ right → (∀ i j, f ≤ i → i < j → j < t → q i < q j ∧ ab (q i) < ab (q j)) → (∀ i, f ≤ i → i < t → n ≤ q i ∧ q i < right) → (∀ r, left ≤ r → r < right → n ≤ r → ∃ i, f ≤ i ∧ i < t ∧ r ≤ q i ∧ ab (q i) ≤ ab r) → (∀ i, f ≤ i → i < t → z i = nI (q i)) →
      vc_WI_slide_48 (nI m) fl owz (nI n) (nI N) soz abz post (g + 1) (nI (held left right)) (nI left) (nI right) bpz (nI (bl (Cg held ab n N m) (left - n))) (nI f) (nI t) ins z := by
    intro g
    induction g with
    | zero =>
      intro right left f t bpz ins z q hg hnl hlr hhd hbp hins c1 c2 c3 c4 c5 c6
      have eN : right = N := by omega
      subst eN
      rw [vc_WI_slide_48, nI_leI (by omega) (by omega)]
      refine ⟨fun _ => ?_, fun c => absurd (Nat.le_refl _) c⟩
      have sk := bl_skip (C := Cg held ab n right m) (show left - n ≤ right - n by omega) (fun i i1 i2 => by
        have := Cg_zero (held := held) (ab := ab) (n := n) (N := right) (m := m) (l := n + i) hH (by omega) (by omega) (by
          have := held_monol hH (show left ≤ n + i by omega) (show n + i ≤ right by omega)
          omega)
        rwa [Nat.add_sub_cancel_left] at this)
      rw [← sk.1]
      exact hp _ _ _ _ _ (by rw [sk.1, sk.2]; exact hbp)
    | succ g ih =>
      intro right left f t bpz ins z q hg hnl hlr hhd hbp hins c1 c2 c3 c4 c5 c6
      have rlt : right < N := by omega
      have hb := hblb (left - n)
      rw [vc_WI_slide_48, nI_leI (by omega) (by omega)]
      refine ⟨fun c => by omega, fun _ => ?_⟩
      refine s_pushLeast hN rlt (by omega) habz hab c1 c2 c3 c4 c5 c6 (fun t' z' q' hz' hq' => ?_)
      refine hE left right ins hnl hlr rlt hins _ (fun ins' hins' => ?_)
      have hm1 := hH.2.1 left right hlr
      rw [nI_add, show held left right + (held left (right + 1) - held left right) = held left (right + 1) by omega]
      refine ⟨right - left + 1, ?_⟩
      have key76 : ∀ e left f bpz ins, left + e = right → n ≤ left → held left right < m → (bpz = if bl (Cg held ab n N m) (left - n) = 0 then -nI 1 else nI (sa (n + bp (Cg held ab n N m) (left - n)))) → Ins left (right + 1) ins → DQ ab q' n f t' left right → (∀ i, f ≤ i → i < t' → z' i = nI (q' i)) →
          vc_WI_slide_76 (nI m) fl owz (nI n) (nI N) soz abz post (fun x3' x4' x5' z_bestPosition' z_bestLength' z_leastFrom' z_leastTo' z_inside' z_least' => vc_WI_slide_48 (nI m) fl owz (nI n) (nI N) soz abz post (g + 1) x3' x4' x5' z_bestPosition' z_bestLength' z_leastFrom' z_leastTo' z_inside' z_least') (e + 1) (nI (held left (right + 1))) (nI left) (nI right) bpz (nI (bl (Cg held ab n N m) (left - n))) (nI f) (nI t') ins z' := by
        intro e
        have out : ∀ left f bpz ins, left ≤ right → n ≤ left → held left (right + 1) < m → (bpz = if bl (Cg held ab n N m) (left - n) = 0 then -nI 1 else nI (sa (n + bp (Cg held ab n N m) (left - n)))) → Ins left (right + 1) ins → DQ ab q' n f t' left right → (∀ i, f ≤ i → i < t' → z' i = nI (q' i)) →
            vc_WI_slide_110 (nI m) fl owz (nI n) (nI N) soz abz post (fun x3' x4' x5' z_bestPosition' z_bestLength' z_leastFrom' z_leastTo' z_inside' z_least' => vc_WI_slide_48 (nI m) fl owz (nI n) (nI N) soz abz post (g + 1) x3' x4' x5' z_bestPosition' z_bestLength' z_leastFrom' z_leastTo' z_inside' z_least') (nI (held left (right + 1))) (nI left) (nI right) bpz (nI (bl (Cg held ab n N m) (left - n))) (nI f) (nI t') ins z' := by
          intro left f bpz ins l1 l2 l3 l4 l5 l6 l7
          unfold vc_WI_slide_110
          rw [nI_1]
          exact ih (right + 1) left f t' bpz ins z' q' (by omega) l2 (by omega) l3 l4 l5 l6.1 (by have := l6.2.1; omega) l6.2.2.1 (fun i i1 i2 => by have := l6.2.2.2.1 i i1 i2; omega) (fun r r1 r2 r3 => l6.2.2.2.2 r r1 (by omega) r3) l7
        induction e with
        | zero =>
          intro left f bpz ins l1 l2 l3 l4 l5 l6 l7
          have el : left = right := by omega
          have hle := held_le hH (show left ≤ right + 1 by omega)
          have hb2 := hblb (left - n)
          rw [vc_WI_slide_76, nI_ltI (by omega) (by omega)]
          refine ⟨fun c => out left f bpz ins (by omega) l2 c l4 l5 l6 l7, fun c => by omega⟩
        | succ e ih2 =>
          intro left f bpz ins l1 l2 l3 l4 l5 l6 l7
          have hle := held_le hH (show left ≤ right + 1 by omega)
          have hb2 := hblb (left - n)
          rw [vc_WI_slide_76, nI_ltI (by omega) (by omega), nI_leI (by omega) (by omega)]
          refine ⟨fun c => out left f bpz ins (by omega) l2 c l4 l5 l6 l7, fun c => ⟨fun c2 => by omega, fun _ => ?_⟩⟩
          have hC := Cg_at (held := held) (ab := ab) (n := n) (N := N) (m := m) hH l2 (show left < right by omega) rlt l3 (by omega)
          refine s_keepBetter hN rlt (by omega) l2 habz hab hso l7 l6 hC rfl hb2 l4 (fun f' bpz' k1 k2 k3 => ?_)
          refine hL left (right + 1) ins l2 (by omega) (by omega) l5 _ (fun ins' hins' => ?_)
          have hmm := hH.2.2 left (right + 1) (by omega)
          have hmm2 := held_monol hH (show left ≤ left + 1 by omega) (show left + 1 ≤ right by omega)
          rw [nI_subI (by omega), nI_1, show held left (right + 1) - (held left (right + 1) - held (left + 1) (right + 1)) = held (left + 1) (right + 1) by omega]
          have e2 : left - n + 1 = left + 1 - n := by omega
          rw [e2] at k3 ⊢
          exact ih2 (left + 1) f' bpz' ins' (by omega) (by omega) (by omega) k3 hins' k1 (fun i i1 i2 => l7 i (by omega) i2)
      exact key76 (right - left) left f bpz ins' (by omega) hnl hhd hbp hins' hq' hz'
  unfold vc_WI_slide
  refine s_fill0 (by omega) (fun ins hins => ⟨N - n + 1, ?_⟩)
  have := key48 (N - n) n n 0 0 (-nI 1) ins z0 (fun _ => 0) (by omega) (Nat.le_refl _) (Nat.le_refl _) (by rw [hH.1]; omega) (by rw [Nat.sub_self]; rfl) (hI0 ins (fun i hi => by rw [hins i, if_pos hi]; rfl)) (Nat.le_refl _) (by omega) (fun i j _ _ h => by omega) (fun i _ h => by omega) (fun r r1 r2 => by omega) (fun i _ h => by omega)
  rw [hH.1, Nat.sub_self] at this
  exact this
