/-! sequences: code of a beginning, common beginning -/
def cod (u : Nat → Nat) : Nat → Nat
  | 0 => 0
  | h + 1 => cod u h * 400 + u h
def lc (u v : Nat → Nat) : Nat → Nat
  | 0 => 0
  | f + 1 => if lc u v f = f ∧ u f = v f then f + 1 else lc u v f
theorem cod_eq {u v : Nat → Nat} (hu : ∀ i, u i < 400) (hv : ∀ i, v i < 400) (h : Nat) : cod u h = cod v h ↔ ∀ i, i < h → u i = v i := by
  induction h with
  | zero => simp [cod]
  | succ h ih =>
    have h1 := hu h
    have h2 := hv h
    simp only [cod]
    constructor
    · intro e
      have e1 : cod u h = cod v h := by omega
      have e2 : u h = v h := by omega
      intro i hi
      by_cases q : i = h
      · rw [q, e2]
      · exact ih.mp e1 i (by omega)
    · intro e
      rw [ih.mpr (fun i hi => e i (by omega)), e h (by omega)]
theorem cod_lt {u v : Nat → Nat} (hu : ∀ i, u i < 400) (hv : ∀ i, v i < 400) (h : Nat) : cod u h < cod v h ↔ ∃ l, l < h ∧ (∀ i, i < l → u i = v i) ∧ u l < v l := by
  induction h with
  | zero => simp [cod]
  | succ h ih =>
    have h1 := hu h
    have h2 := hv h
    simp only [cod]
    constructor
    · intro e
      by_cases q : cod u h < cod v h
      · obtain ⟨l, a, b, c⟩ := ih.mp q
        exact ⟨l, by omega, b, c⟩
      · have e1 : cod u h = cod v h := by omega
        exact ⟨h, by omega, (cod_eq hu hv h).mp e1, by omega⟩
    · rintro ⟨l, a, b, c⟩
      by_cases q : l = h
      · subst q
        rw [(cod_eq hu hv l).mpr b]
        omega
      · have := ih.mpr ⟨l, by omega, b, c⟩
        omega
/-- twice as long: first half, then second half -/
theorem cod_twice {u v : Nat → Nat} (hu : ∀ i, u i < 400) (hv : ∀ i, v i < 400) (h k : Nat) :
    cod u (h + k) < cod v (h + k) ↔ cod u h < cod v h ∨ (cod u h = cod v h ∧ cod (fun i => u (h + i)) k < cod (fun i => v (h + i)) k) := by
  rw [cod_lt hu hv, cod_lt hu hv, cod_eq hu hv, cod_lt (fun i => hu _) (fun i => hv _)]
  constructor
  · rintro ⟨l, a, b, c⟩
    by_cases q : l < h
    · exact Or.inl ⟨l, q, b, c⟩
    · refine Or.inr ⟨fun i hi => b i (by omega), l - h, by omega, fun i hi => b _ (by omega), ?_⟩
      have e : h + (l - h) = l := by omega
      simp only [e]; exact c
  · rintro (⟨l, a, b, c⟩ | ⟨e, l, a, b, c⟩)
    · exact ⟨l, by omega, b, c⟩
    · refine ⟨h + l, by omega, fun i hi => ?_, c⟩
      by_cases q : i < h
      · exact e i q
      · have := b (i - h) (by omega)
        have e' : h + (i - h) = i := by omega
        simp only [e'] at this; exact this
theorem cod_twice_eq {u v : Nat → Nat} (hu : ∀ i, u i < 400) (hv : ∀ i, v i < 400) (h k : Nat) :
    cod u (h + k) = cod v (h + k) ↔ cod u h = cod v h ∧ cod (fun i => u (h + i)) k = cod (fun i => v (h + i)) k := by
  rw [cod_eq hu hv, cod_eq hu hv, cod_eq (fun i => hu _) (fun i => hv _)]
  constructor
  · intro b
    exact ⟨fun i hi => b i (by omega), fun i hi => b _ (by omega)⟩
  · rintro ⟨e, b⟩ i hi
    by_cases q : i < h
    · exact e i q
    · have := b (i - h) (by omega)
      have e' : h + (i - h) = i := by omega
      simp only [e'] at this; exact this
theorem cod_le_of {u v : Nat → Nat} (hu : ∀ i, u i < 400) (hv : ∀ i, v i < 400) {h k : Nat} (hk : h ≤ k) (e : cod u k ≤ cod v k) : cod u h ≤ cod v h := by
  have e' : k = h + (k - h) := by omega
  rw [e'] at e
  by_cases q : cod v h < cod u h
  · have := (cod_twice hv hu h (k - h)).mpr (Or.inl q)
    omega
  · omega
theorem lc_le (u v : Nat → Nat) (f : Nat) : lc u v f ≤ f := by
  induction f with
  | zero => simp [lc]
  | succ f ih => simp only [lc]; split <;> omega
theorem lc_same {u v : Nat → Nat} {f : Nat} : ∀ i, i < lc u v f → u i = v i := by
  induction f with
  | zero => intro i hi; simp [lc] at hi
  | succ f ih =>
    intro i hi
    simp only [lc] at hi
    split at hi
    · rename_i q
      by_cases e : i = f
      · rw [e]; exact q.2
      · exact ih i (by omega)
    · exact ih i hi
theorem lc_diff {u v : Nat → Nat} {f : Nat} : lc u v f < f → u (lc u v f) ≠ v (lc u v f) := by
  induction f with
  | zero => intro h; omega
  | succ f ih =>
    intro h
    simp only [lc] at h ⊢
    split
    · rename_i q
      rw [if_pos q] at h; omega
    · rename_i q
      rw [if_neg q] at h
      by_cases e : lc u v f < f
      · exact ih e
      · have := lc_le u v f
        have e' : lc u v f = f := by omega
        rw [e']
        exact fun e2 => q ⟨e', e2⟩
theorem lc_ge {u v : Nat → Nat} {f l : Nat} (h : l ≤ f) (he : ∀ i, i < l → u i = v i) : l ≤ lc u v f := by
  by_cases q : lc u v f < l
  · exact absurd (he _ q) (lc_diff (by omega))
  · omega
theorem lc_is {u v : Nat → Nat} {f l : Nat} (h : l < f) (he : ∀ i, i < l → u i = v i) (hd : u l ≠ v l) : lc u v f = l := by
  have h1 := lc_ge (Nat.le_of_lt h) he
  by_cases q : l < lc u v f
  · exact absurd (lc_same l q) hd
  · omega
theorem lc_comm (u v : Nat → Nat) (f : Nat) : lc u v f = lc v u f := by
  induction f with
  | zero => rfl
  | succ f ih => simp only [lc]; rw [ih]; simp only [eq_comm (a := u f)]
theorem lc_cod {u v : Nat → Nat} (hu : ∀ i, u i < 400) (hv : ∀ i, v i < 400) {h f : Nat} (hf : h ≤ f) : h ≤ lc u v f ↔ cod u h = cod v h := by
  rw [cod_eq hu hv]
  constructor
  · intro q i hi; exact lc_same (f := f) i (by omega)
  · exact lc_ge hf
/-- in the middle -/
theorem lc_mid {u v w : Nat → Nat} (hu : ∀ i, u i < 400) (hv : ∀ i, v i < 400) (hw : ∀ i, w i < 400) {f : Nat}
    (h1 : cod u f ≤ cod v f) (h2 : cod v f ≤ cod w f) : lc u w f = min (lc u v f) (lc v w f) := by
  have key : ∀ h, h ≤ f → (h ≤ lc u w f ↔ h ≤ lc u v f ∧ h ≤ lc v w f) := by
    intro h hf
    rw [lc_cod hu hw hf, lc_cod hu hv hf, lc_cod hv hw hf]
    have a := cod_le_of hu hv hf h1
    have b := cod_le_of hv hw hf h2
    omega
  have a1 := lc_le u w f
  have a2 := lc_le u v f
  have a3 := lc_le v w f
  have k1 := (key _ a1).mp (Nat.le_refl _)
  have k2 := (key (min (lc u v f) (lc v w f)) (by omega)).mpr ⟨by omega, by omega⟩
  omega
theorem lc_tri {u v w : Nat → Nat} {f : Nat} : min (lc u v f) (lc v w f) ≤ lc u w f := by
  have a2 := lc_le u v f
  refine lc_ge (by omega) (fun i hi => ?_)
  rw [lc_same i (by omega : i < lc u v f), lc_same i (by omega : i < lc v w f)]
theorem lc_congr {u v u' v' : Nat → Nat} {f : Nat} (h1 : ∀ i, u i = u' i) (h2 : ∀ i, v i = v' i) : lc u v f = lc u' v' f := by
  rw [show u = u' from funext h1, show v = v' from funext h2]
