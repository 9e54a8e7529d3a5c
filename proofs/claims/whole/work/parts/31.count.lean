/-! counting, injections of a finite range, one increasing enumeration -/
/-- how many j below n have P -/
def cnt (P : Nat → Bool) : Nat → Nat
  | 0 => 0
  | n + 1 => cnt P n + (if P n then 1 else 0)
theorem cnt_le (P : Nat → Bool) (n : Nat) : cnt P n ≤ n := by
  induction n with
  | zero => simp [cnt]
  | succ n ih => simp only [cnt]; split <;> omega
theorem cnt_congr {P Q : Nat → Bool} {n : Nat} (h : ∀ j, j < n → P j = Q j) : cnt P n = cnt Q n := by
  induction n with
  | zero => rfl
  | succ n ih =>
    simp only [cnt]
    rw [ih (fun j hj => h j (by omega)), h n (by omega)]
theorem cnt_mono {P Q : Nat → Bool} {n : Nat} (h : ∀ j, j < n → P j = true → Q j = true) : cnt P n ≤ cnt Q n := by
  induction n with
  | zero => simp [cnt]
  | succ n ih =>
    simp only [cnt]
    have h1 := ih (fun j hj => h j (by omega))
    have h2 := h n (by omega)
    by_cases hp : P n = true
    · rw [if_pos hp, if_pos (h2 hp)]; omega
    · rw [if_neg hp]; omega
theorem cnt_lt {P Q : Nat → Bool} {n q : Nat} (h : ∀ j, j < n → P j = true → Q j = true) (hq : q < n) (hQ : Q q = true) (hP : P q = false) : cnt P n < cnt Q n := by
  induction n with
  | zero => omega
  | succ n ih =>
    simp only [cnt]
    by_cases e : q = n
    · rw [← e, hP, hQ]
      have := cnt_mono (n := q) (fun j hj => h j (by omega))
      simp
      omega
    · have h1 := ih (fun j hj => h j (by omega)) (by omega)
      have h2 := h n (by omega)
      by_cases hp : P n = true
      · rw [if_pos hp, if_pos (h2 hp)]; omega
      · rw [if_neg hp]; omega
/-- P is Q and one more -/
theorem cnt_one {P Q : Nat → Bool} {n q : Nat} (hq : q < n) (hP : P q = true) (hQ : Q q = false) (h : ∀ j, j < n → j ≠ q → P j = Q j) : cnt P n = cnt Q n + 1 := by
  induction n with
  | zero => omega
  | succ n ih =>
    simp only [cnt]
    by_cases e : q = n
    · rw [← e, hP, hQ, cnt_congr (n := q) (P := P) (Q := Q) (fun j hj => h j (by omega) (by omega))]
      simp
    · rw [ih (by omega) (fun j hj => h j (by omega)), h n (by omega) (by omega)]
      omega
theorem cnt_all {P : Nat → Bool} {n : Nat} (h : ∀ j, j < n → P j = true) : cnt P n = n := by
  induction n with
  | zero => rfl
  | succ n ih => simp only [cnt]; rw [ih (fun j hj => h j (by omega)), h n (by omega)]; simp
theorem cnt_none {P : Nat → Bool} {n : Nat} (h : ∀ j, j < n → P j = false) : cnt P n = 0 := by
  induction n with
  | zero => rfl
  | succ n ih => simp only [cnt]; rw [ih (fun j hj => h j (by omega)), h n (by omega)]; simp
theorem cnt_step (P : Nat → Bool) {m n : Nat} (h : m ≤ n) : cnt P m ≤ cnt P n := by
  induction n with
  | zero => have : m = 0 := by omega
            subst this; omega
  | succ n ih =>
    by_cases e : m = n + 1
    · subst e; omega
    · have := ih (by omega)
      simp only [cnt]; omega
theorem cnt_slt {P : Nat → Bool} {m n : Nat} (h : m < n) (hm : P m = true) : cnt P m < cnt P n := by
  have h1 := cnt_step P (show m + 1 ≤ n by omega)
  simp only [cnt, hm] at h1
  simp at h1
  omega
/-- an injection of a finite range into itself meets all -/
theorem inj_onto {f : Nat → Nat} {n : Nat} (h1 : ∀ i, i < n → f i < n) (h2 : ∀ i j, i < n → j < n → f i = f j → i = j) : ∀ y, y < n → ∃ i, i < n ∧ f i = y := by
  induction n generalizing f with
  | zero => intro y hy; omega
  | succ n ih =>
    -- g: f with its value n swapped away
    have key : ∀ g : Nat → Nat, (∀ i, i < n → g i < n) → (∀ i j, i < n → j < n → g i = g j → i = j) → ∀ y, y < n → ∃ i, i < n ∧ g i = y := fun g a b => ih a b
    by_cases hn : ∃ i, i < n ∧ f i = n
    · obtain ⟨i0, hi0, hf0⟩ := hn
      have hfn : f n < n := by
        have := h1 n (by omega)
        by_cases e : f n = n
        · have := h2 i0 n (by omega) (by omega) (by omega); omega
        · omega
      have hg := key (fun i => if i = i0 then f n else f i)
        (by
          intro i hi
          by_cases e : i = i0
          · simp [e, hfn]
          · simp only [e, if_false]
            have := h1 i (by omega)
            by_cases e' : f i = n
            · exact absurd (h2 i i0 (by omega) (by omega) (by omega)) e
            · omega)
        (by
          intro i j hi hj he
          by_cases ei : i = i0 <;> by_cases ej : j = i0
          · omega
          · simp only [ei, ej, if_true, if_false] at he
            have := h2 n j (by omega) (by omega) he; omega
          · simp only [ei, ej, if_true, if_false] at he
            have := h2 i n (by omega) (by omega) he; omega
          · simp only [ei, ej, if_false] at he
            exact h2 i j (by omega) (by omega) he)
      intro y hy
      by_cases e : y = n
      · exact ⟨i0, by omega, by omega⟩
      · obtain ⟨i, hi, he⟩ := hg y (by omega)
        by_cases ei : i = i0
        · simp only [ei, if_true] at he
          exact ⟨n, by omega, he⟩
        · simp only [ei, if_false] at he
          exact ⟨i, by omega, he⟩
    · have hb : ∀ i, i < n → f i < n := by
        intro i hi
        have := h1 i (by omega)
        by_cases e : f i = n
        · exact absurd ⟨i, hi, e⟩ hn
        · omega
      have hg := key f hb (fun i j hi hj => h2 i j (by omega) (by omega))
      have hfn : f n = n := by
        have := h1 n (by omega)
        by_cases e : f n = n
        · exact e
        · obtain ⟨i, hi, he⟩ := hg (f n) (by omega)
          have := h2 i n (by omega) (by omega) he; omega
      intro y hy
      by_cases e : y = n
      · exact ⟨n, by omega, by omega⟩
      · obtain ⟨i, hi, he⟩ := hg y (by omega)
        exact ⟨i, by omega, he⟩
/-- two increasing enumerations of one set are one -/
theorem enum_uniq {X : Nat → Nat} {s t : Nat → Nat} {n : Nat}
    (hs : ∀ i j, i < j → j < n → X (s i) < X (s j)) (ht : ∀ i j, i < j → j < n → X (t i) < X (t j))
    (h1 : ∀ k, k < n → ∃ m, m < n ∧ s k = t m) (h2 : ∀ k, k < n → ∃ m, m < n ∧ t k = s m) :
    ∀ k, k < n → s k = t k := by
  intro k
  induction k using Nat.strongRecOn with
  | ind k ih =>
    intro hk
    obtain ⟨m, hm, em⟩ := h1 k hk
    obtain ⟨m', hm', em'⟩ := h2 k hk
    have a1 : ¬ m < k := by
      intro q
      have e := ih m q hm
      have := hs m k q hk
      rw [em, e] at this; omega
    have a2 : ¬ m' < k := by
      intro q
      have e := ih m' q hm'
      have := ht m' k q hk
      rw [em', e] at this; omega
    by_cases e1 : m = k
    · rw [em, e1]
    · by_cases e2 : m' = k
      · rw [em', e2]
      · have b1 := ht k m (by omega) hm
        have b2 := hs k m' (by omega) hm'
        rw [← em] at b1
        rw [← em'] at b2
        omega
