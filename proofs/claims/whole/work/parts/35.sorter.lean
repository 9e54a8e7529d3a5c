/-! the sorter -/
def Perm (N : Nat) (s inv : Nat → Nat) : Prop := (∀ k, k < N → s k < N ∧ inv (s k) = k) ∧ (∀ p, p < N → inv p < N ∧ s (inv p) = p)
theorem dn0 : (nI 0 + -nI 1 < nI 0) ↔ True := by decide
/-- where p goes: how many are before it -/
def slot (N : Nat) (r idx : Nat → Nat) (p : Nat) : Nat := cnt (fun q => decide (r q < r p ∨ (r q = r p ∧ idx q < idx p))) N
theorem slot_lt {N : Nat} {r idx : Nat → Nat} {p : Nat} (hp : p < N) : slot N r idx p < N := by
  have h := cnt_lt (n := N) (q := p) (P := fun q => decide (r q < r p ∨ (r q = r p ∧ idx q < idx p))) (Q := fun _ => true) (fun j _ _ => rfl) hp rfl (by simp)
  rw [cnt_all (P := fun _ => true) (fun _ _ => rfl)] at h
  exact h
theorem slot_mono {N : Nat} {r idx : Nat → Nat} {p q : Nat} (hp : p < N) (h : r p < r q ∨ (r p = r q ∧ idx p < idx q)) : slot N r idx p < slot N r idx q := by
  refine cnt_lt (q := p) (fun j _ hj => ?_) hp (by simpa using h) (by simp)
  simp only [decide_eq_true_eq] at hj ⊢
  omega
theorem slot_inj {N : Nat} {r idx : Nat → Nat} {p q : Nat} (hp : p < N) (hq : q < N) (hi : idx p = idx q → p = q) (e : slot N r idx p = slot N r idx q) : p = q := by
  by_cases a : r p < r q ∨ (r p = r q ∧ idx p < idx q)
  · have := slot_mono hp a; omega
  · by_cases b : r q < r p ∨ (r q = r p ∧ idx q < idx p)
    · have := slot_mono hq b; omega
    · exact hi (by omega)
theorem s_sbr_83 {N C : Nat} {bt rz : Nat → Int32} {b idx r : Nat → Nat} (hN : N ≤ 16448) (hC : C ≤ 16448) (hb : Perm N b idx) (hbt : ∀ i, i < N → bt i = nI (b i)) (hrz : ∀ p, p < N → rz p = nI (r p)) (hr : ∀ p, p < N → r p < C)
    {post : (Nat → Int32) → (Nat → Int32) → Prop} (h : ∀ t so, (∀ p, p < N → so (slot N r idx p) = nI p) → post t so) :
    ∀ i, i ≤ N → ∀ t so, (∀ c, c < C → t c = nI (cnt (fun q => decide (r q < c ∨ (r q = c ∧ idx q < i))) N)) → (∀ p, p < N → i ≤ idx p → so (slot N r idx p) = nI p) →
      vc_SO_sortByRanks_83 (nI C) 16448 16448 (nI N) bt rz post (i + 1) (nI i + -nI 1) t so := by
  intro i
  induction i with
  | zero =>
    intro hi t so ht hso
    rw [vc_SO_sortByRanks_83]
    simp only [li0, li1, li2, li3, li4, li5, li6, li7, li8, li16, li20, li24, li31, li63, li64, li65, li200, li255, li256, li320, li16384, li16448, li65535, li65536, dn0]
    refine ⟨fun _ => h _ _ (fun p hp => hso p hp (by omega)), fun q => absurd trivial q⟩
  | succ i ih =>
    intro hi t so ht hso
    rw [vc_SO_sortByRanks_83]
    have hbi := hb.1 i (by omega)
    have hrb := hr _ hbi.1
    have hcb := cnt_le (fun q => decide (r q < r (b i) ∨ (r q = r (b i) ∧ idx q < i + 1))) N
    have hone : cnt (fun q => decide (r q < r (b i) ∨ (r q = r (b i) ∧ idx q < i + 1))) N = slot N r idx (b i) + 1 := by
      refine cnt_one hbi.1 (by simp [hbi.2]) (by simp) (fun j hj hne => ?_)
      have : idx j ≠ i := fun e => hne (by rw [← (hb.2 j hj).2, e])
      rw [hbi.2]
      congr 1
      apply propext
      omega
    have hsl := slot_lt (r := r) (idx := idx) hbi.1
    simp (disch := omega) only [li0, li1, li2, li3, li4, li5, li6, li7, li8, li16, li20, li24, li31, li63, li64, li65, li200, li255, li256, li320, li16384, li16448, li65535, li65536, nI_add, nI_subI, nI_mulI, nI_ltI, nI_leI, nI_eq, nI_clamp, vpI, nI_maxN, nI_minN, ls_nI, half_nI, nI_addneg, Nat.add_sub_cancel, hbt, hrz, ht, hone]
    refine ⟨fun q => by omega, fun _ => ⟨by omega, by omega, by omega, by omega, by omega, by omega, ih (by omega) _ _ (fun c hc => ?_) (fun p hp hip => ?_)⟩⟩
    · unfold upd
      by_cases e : c = r (b i)
      · rw [if_pos e, e]
        congr 1
        unfold slot
        rw [hbi.2]
      · rw [if_neg e, ht c hc]
        congr 1
        refine cnt_congr (fun j hj => ?_)
        congr 1
        apply propext
        constructor
        · rintro (a | ⟨a, a2⟩)
          · exact Or.inl a
          · have : idx j ≠ i := fun e2 => e (by rw [← a, ← (hb.2 j hj).2, e2])
            exact Or.inr ⟨a, by omega⟩
        · omega
    · unfold upd
      by_cases e : p = b i
      · rw [e, if_pos rfl]
      · rw [if_neg (fun e2 => e (slot_inj hp hbi.1 (fun e3 => by rw [← (hb.2 p hp).2, e3, hbi.2]) e2)), hso p hp]
        have : idx p ≠ i := fun e2 => e (by rw [← e2, (hb.2 p hp).2])
        omega
theorem s_sbr_44 {N C : Nat} {bt rz : Nat → Int32} {b idx r : Nat → Nat} (hN : N ≤ 16448) (h1 : 1 ≤ N) (hC : C ≤ 16448) (hb : Perm N b idx) (hbt : ∀ i, i < N → bt i = nI (b i)) (hrz : ∀ p, p < N → rz p = nI (r p)) (hr : ∀ p, p < N → r p < C)
    {post : (Nat → Int32) → (Nat → Int32) → Prop} (h : ∀ t so, (∀ p, p < N → so (slot N r idx p) = nI p) → post t so) :
    ∀ k x, x + k = C → 1 ≤ x → ∀ t so, (∀ c, c < x → t c = nI (cnt (fun q => decide (r q ≤ c)) N)) → (∀ c, x ≤ c → c < C → t c = nI (cnt (fun q => decide (r q = c)) N)) →
      vc_SO_sortByRanks_44 (nI C) 16448 16448 (nI N) bt rz post (k + 1) (nI x) t so := by
  intro k
  induction k with
  | zero =>
    intro x hx hx1 t so ht ht2
    rw [vc_SO_sortByRanks_44]
    simp (disch := omega) only [li0, li1, li2, li3, li4, li5, li6, li7, li8, li16, li20, li24, li31, li63, li64, li65, li200, li255, li256, li320, li16384, li16448, li65535, li65536, nI_add, nI_subI, nI_mulI, nI_ltI, nI_leI, nI_eq, nI_clamp, vpI, nI_maxN, nI_minN, ls_nI, half_nI, nI_addneg]
    refine ⟨fun _ => ⟨N + 1, ?_⟩, fun q => absurd (by omega) q⟩
    have := s_sbr_83 hN hC hb hbt hrz hr h N (Nat.le_refl N) t so (fun c hc => by
      rw [ht c (by omega)]
      congr 1
      refine cnt_congr (fun j hj => ?_)
      congr 1
      apply propext
      have := (hb.2 j hj).1
      omega) (fun p hp hip => by
      have := (hb.2 p hp).1
      omega)
    rw [nI_addneg h1] at this
    exact this
  | succ k ih =>
    intro x hx hx1 t so ht ht2
    rw [vc_SO_sortByRanks_44]
    simp (disch := omega) only [li0, li1, li2, li3, li4, li5, li6, li7, li8, li16, li20, li24, li31, li63, li64, li65, li200, li255, li256, li320, li16384, li16448, li65535, li65536, nI_add, nI_subI, nI_mulI, nI_ltI, nI_leI, nI_eq, nI_clamp, vpI, nI_maxN, nI_minN, ls_nI, half_nI, nI_addneg, ht, ht2]
    refine ⟨fun q => by omega, fun _ => ⟨by omega, by omega, by omega, ih (x + 1) (by omega) (by omega) _ _ (fun c hc => ?_) (fun c hc hc2 => ?_)⟩⟩
    · unfold upd
      by_cases e : c = x
      · rw [if_pos e, e]
        congr 1
        have hadd : ∀ n, cnt (fun q => decide (r q = x)) n + cnt (fun q => decide (r q ≤ x - 1)) n = cnt (fun q => decide (r q ≤ x)) n := by
          intro n
          induction n with
          | zero => rfl
          | succ n ih2 =>
            simp only [cnt, decide_eq_true_eq]
            split <;> split <;> split <;> omega
        exact hadd N
      · rw [if_neg e, ht c (by omega)]
    · unfold upd
      rw [if_neg (by omega), ht2 c (by omega) hc2]
theorem s_sbr {N C : Nat} {bt rz t0 so0 : Nat → Int32} {b idx r : Nat → Nat} (hN : N ≤ 16448) (h1 : 1 ≤ N) (hC : C ≤ 16448) (hC1 : 1 ≤ C) (hb : Perm N b idx) (hbt : ∀ i, i < N → bt i = nI (b i)) (hrz : ∀ p, p < N → rz p = nI (r p)) (hr : ∀ p, p < N → r p < C)
    {post : (Nat → Int32) → (Nat → Int32) → Prop} (h : ∀ t so, (∃ s inv, Perm N s inv ∧ (∀ k, k < N → so k = nI (s k)) ∧ (∀ i j, i < j → j < N → r (s i) < r (s j) ∨ (r (s i) = r (s j) ∧ idx (s i) < idx (s j)))) → post t so) :
    vc_SO_sortByRanks (nI C) 16448 16448 (nI N) bt rz post t0 so0 := by
  have h' : ∀ t so, (∀ p, p < N → so (slot N r idx p) = nI p) → post t so := by
    intro t so hso
    have honto := inj_onto (f := slot N r idx) (n := N) (fun i hi => slot_lt hi) (fun i j hi hj e => slot_inj hi hj (fun e2 => by rw [← (hb.2 i hi).2, e2, (hb.2 j hj).2]) e)
    have hinv : ∀ k, k < N → (so k).toNatClampNeg < N ∧ slot N r idx (so k).toNatClampNeg = k ∧ so k = nI (so k).toNatClampNeg := by
      intro k hk
      obtain ⟨p, hp, e⟩ := honto k hk
      have := hso p hp
      rw [e] at this
      rw [this, nI_clamp (by omega)]
      exact ⟨hp, e, rfl⟩
    refine h t so ⟨fun k => (so k).toNatClampNeg, slot N r idx, ⟨fun k hk => ⟨(hinv k hk).1, (hinv k hk).2.1⟩, fun p hp => ⟨slot_lt hp, ?_⟩⟩, fun k hk => (hinv k hk).2.2, fun i j hij hj => ?_⟩
    · show (so (slot N r idx p)).toNatClampNeg = p
      rw [hso p hp, nI_clamp (by omega)]
    · have a := hinv i (by omega)
      have c := hinv j hj
      by_cases q : r (so i).toNatClampNeg < r (so j).toNatClampNeg ∨ (r (so i).toNatClampNeg = r (so j).toNatClampNeg ∧ idx (so i).toNatClampNeg < idx (so j).toNatClampNeg)
      · exact q
      · by_cases q2 : r (so j).toNatClampNeg < r (so i).toNatClampNeg ∨ (r (so j).toNatClampNeg = r (so i).toNatClampNeg ∧ idx (so j).toNatClampNeg < idx (so i).toNatClampNeg)
        · have := slot_mono (N := N) c.1 q2
          rw [a.2.1, c.2.1] at this
          omega
        · have e : idx (so i).toNatClampNeg = idx (so j).toNatClampNeg := by omega
          have e2 : (so i).toNatClampNeg = (so j).toNatClampNeg := by rw [← (hb.2 _ a.1).2, e, (hb.2 _ c.1).2]
          have := a.2.1
          rw [e2, c.2.1] at this
          omega
  unfold vc_SO_sortByRanks
  rw [li0]
  refine s_fill1 (by omega) hC (by omega) (fun z hz => ?_)
  have key : ∀ k x, x + k = N → ∀ t so, (∀ c, c < C → t c = nI (cnt (fun q => decide (r q = c)) x)) → vc_SO_sortByRanks_13 (nI C) 16448 16448 (nI N) bt rz post (k + 1) (nI x) t so := by
    intro k
    induction k with
    | zero =>
      intro x hx t so ht
      rw [vc_SO_sortByRanks_13]
      simp (disch := omega) only [li0, li1, li2, li3, li4, li5, li6, li7, li8, li16, li20, li24, li31, li63, li64, li65, li200, li255, li256, li320, li16384, li16448, li65535, li65536, nI_add, nI_subI, nI_mulI, nI_ltI, nI_leI, nI_eq, nI_clamp, vpI, nI_maxN, nI_minN, ls_nI, half_nI, nI_addneg]
      refine ⟨fun _ => ⟨C - 1 + 1, s_sbr_44 hN h1 hC hb hbt hrz hr h' (C - 1) 1 (by omega) (by omega) _ _ (fun c hc => ?_) (fun c hc hc2 => ?_)⟩, fun q => absurd (by omega) q⟩
      · have : c = 0 := by omega
        subst this
        rw [ht 0 (by omega), show x = N by omega]
        congr 1
        refine cnt_congr (fun j _ => ?_)
        congr 1
        apply propext
        omega
      · rw [ht c hc2, show x = N by omega]
    | succ k ih =>
      intro x hx t so ht
      rw [vc_SO_sortByRanks_13]
      have := hr x (by omega)
      have hcx := cnt_le (fun q => decide (r q = r x)) x
      simp (disch := omega) only [li0, li1, li2, li3, li4, li5, li6, li7, li8, li16, li20, li24, li31, li63, li64, li65, li200, li255, li256, li320, li16384, li16448, li65535, li65536, nI_add, nI_subI, nI_mulI, nI_ltI, nI_leI, nI_eq, nI_clamp, vpI, nI_maxN, nI_minN, ls_nI, half_nI, nI_addneg, hrz, ht]
      refine ⟨fun q => by omega, fun _ => ⟨by omega, by omega, by omega, ih (x + 1) (by omega) _ _ (fun c hc => ?_)⟩⟩
      unfold upd
      simp only [cnt]
      by_cases e : c = r x
      · rw [if_pos e, e]; simp
      · rw [if_neg e, ht c hc]
        have : ¬ r x = c := fun q => e q.symm
        simp [this]
  exact ⟨N + 1, key N 0 (by omega) _ _ (fun c hc => by rw [hz c, if_pos ⟨by omega, hc⟩]; rfl)⟩
/-- ranks anew -/
def difr (N h : Nat) (r s : Nat → Nat) (j : Nat) : Bool := !(decide (r (s j) = r (s (j + 1)) ∧ s j + h < N ∧ s (j + 1) + h < N ∧ r (s j + h) = r (s (j + 1) + h)))
theorem s_rankAnew {N h : Nat} {so rz nr0 : Nat → Int32} {s inv r : Nat → Nat} (hN : N ≤ 16448) (h1 : 1 ≤ N) (hh : h ≤ 40000) (hs : Perm N s inv) (hso : ∀ i, i < N → so i = nI (s i)) (hrz : ∀ p, p < N → rz p = nI (r p)) (hr : ∀ p, p < N → r p < 20000)
    {post : Int32 → (Nat → Int32) → (Nat → Int32) → Prop} (hp : ∀ nr z', (∀ i, i < N → z' (s i) = nI (cnt (difr N h r s) i)) → post (nI (cnt (difr N h r s) (N - 1) + 1)) nr z') :
    vc_SO_rankAnew (nI h) 16448 16448 (nI N) so post nr0 rz := by
  have key : ∀ k x, x + k = N → ∀ nr, (∀ j, j < x → nr (s j) = nI (cnt (difr N h r s) j)) →
      vc_SO_rankAnew_6 (nI h) 16448 16448 (nI N) so post (k + 1) (nI (cnt (difr N h r s) (x - 1))) (nI x) nr rz := by
    intro k
    induction k with
    | zero =>
      intro x hx nr hnr
      rw [vc_SO_rankAnew_6]
      simp (disch := omega) only [li0, li1, li2, li3, li4, li5, li6, li7, li8, li16, li20, li24, li31, li63, li64, li65, li200, li255, li256, li320, li16384, li16448, li65535, li65536, nI_add, nI_subI, nI_mulI, nI_ltI, nI_leI, nI_eq, nI_clamp, vpI, nI_maxN, nI_minN, ls_nI, half_nI, nI_addneg]
      refine ⟨fun _ => ⟨by omega, by omega, by omega, by omega, by omega, ?_⟩, fun q => absurd (by omega) q⟩
      have e : x = N := by omega
      subst e
      refine hp _ _ (fun i hi => ?_)
      rw [pk_cpy_in (by omega) (by have := (hs.1 i hi).1; omega), Nat.sub_zero, Nat.zero_add]
      exact hnr i hi
    | succ k ih =>
      intro x hx nr hnr
      have hc := cnt_le (difr N h r s) (x - 1)
      have hsx := (hs.1 x (by omega)).1
      have step : ∀ v, v = cnt (difr N h r s) x → vc_SO_rankAnew_42 (nI h) 16448 16448 (nI N) so post (fun x4' x5' z_newRanks' z_p3' => vc_SO_rankAnew_6 (nI h) 16448 16448 (nI N) so post (k + 1) x4' x5' z_newRanks' z_p3') (nI v) (nI x) nr rz := by
        intro v hv
        unfold vc_SO_rankAnew_42
        simp (disch := omega) only [li0, li1, li2, li3, li4, li5, li6, li7, li8, li16, li20, li24, li31, li63, li64, li65, li200, li255, li256, li320, li16384, li16448, li65535, li65536, nI_add, nI_subI, nI_mulI, nI_ltI, nI_leI, nI_eq, nI_clamp, vpI, nI_maxN, nI_minN, ls_nI, half_nI, nI_addneg, hso]
        refine ⟨by omega, by omega, ?_⟩
        rw [hv]
        refine ih (x + 1) (by omega) _ (fun j hj => ?_)
        unfold upd
        by_cases e : j = x
        · rw [e, if_pos rfl]
        · rw [if_neg (fun e2 => e (by rw [← (hs.1 j (by omega)).2, e2, (hs.1 x (by omega)).2])), hnr j (by omega)]
      rw [vc_SO_rankAnew_6]
      simp (disch := omega) only [li0, li1, li2, li3, li4, li5, li6, li7, li8, li16, li20, li24, li31, li63, li64, li65, li200, li255, li256, li320, li16384, li16448, li65535, li65536, nI_add, nI_subI, nI_mulI, nI_ltI, nI_leI, nI_eq, nI_clamp, vpI, nI_maxN, nI_minN, ls_nI, half_nI, nI_addneg, hso]
      refine ⟨fun q => by omega, fun _ => ⟨fun q => ?_, fun q => ?_⟩⟩
      · refine step _ ?_
        rw [show x - 1 = 0 by omega, show x = 0 by omega]
      · have hsx1 := (hs.1 (x - 1) (by omega)).1
        have e1 : x - 1 + 1 = x := by omega
        have hd : cnt (difr N h r s) x = cnt (difr N h r s) (x - 1) + (if difr N h r s (x - 1) then 1 else 0) := by
          have : cnt (difr N h r s) (x - 1 + 1) = cnt (difr N h r s) (x - 1) + (if difr N h r s (x - 1) then 1 else 0) := rfl
          rwa [e1] at this
        have r1 := hr _ hsx
        have r2 := hr _ hsx1
        unfold vc_SO_sameRanks
        simp (disch := omega) only [li0, li1, li2, li3, li4, li5, li6, li7, li8, li16, li20, li24, li31, li63, li64, li65, li200, li255, li256, li320, li16384, li16448, li65535, li65536, nI_add, nI_subI, nI_mulI, nI_ltI, nI_leI, nI_eq, nI_clamp, vpI, nI_maxN, nI_minN, ls_nI, half_nI, nI_addneg, hrz, hso]
        have hdf : difr N h r s (x - 1) = !(decide (r (s (x - 1)) = r (s x) ∧ s (x - 1) + h < N ∧ s x + h < N ∧ r (s (x - 1) + h) = r (s x + h))) := by
          unfold difr; rw [e1]
        have no : ¬ (r (s (x - 1)) = r (s x) ∧ s (x - 1) + h < N ∧ s x + h < N ∧ r (s (x - 1) + h) = r (s x + h)) → cnt (difr N h r s) (x - 1) + 1 = cnt (difr N h r s) x := by
          intro g
          rw [hd, hdf]; simp only [g, decide_false, Bool.not_false, if_true]
        have yes : (r (s (x - 1)) = r (s x) ∧ s (x - 1) + h < N ∧ s x + h < N ∧ r (s (x - 1) + h) = r (s x + h)) → cnt (difr N h r s) (x - 1) = cnt (difr N h r s) x := by
          intro g
          rw [hd, hdf]; simp [g]
        refine ⟨by omega, by omega, by omega, by omega, fun a => ⟨fun b => ?_, fun b => ⟨fun c => ?_, fun c => ⟨by omega, by omega, fun d => ?_, fun d => ?_⟩⟩⟩, fun a => ?_⟩
        · exact ⟨fun g => absurd trivial g, fun _ => step _ (no (by omega))⟩
        · exact ⟨fun g => absurd trivial g, fun _ => step _ (no (by omega))⟩
        · rw [hrz _ (by omega), hrz _ (by omega)] at d
          have r3 := hr _ (show s (x - 1) + h < N by omega)
          have r4 := hr _ (show s x + h < N by omega)
          rw [nI_eq (by omega) (by omega)] at d
          exact ⟨fun g => absurd trivial g, fun _ => step _ (no (by omega))⟩
        · rw [hrz _ (by omega), hrz _ (by omega)] at d
          have r3 := hr _ (show s (x - 1) + h < N by omega)
          have r4 := hr _ (show s x + h < N by omega)
          rw [nI_eq (by omega) (by omega)] at d
          exact ⟨fun _ => step _ (yes ⟨a, by omega, by omega, d⟩), fun g => absurd g (by decide)⟩
        · exact ⟨fun g => absurd trivial g, fun _ => step _ (no (by omega))⟩
  exact ⟨N + 1, key N 0 (by omega) nr0 (fun j hj => by omega)⟩
/-- by tails -/
theorem s_sortByTails {N h : Nat} {so bt0 : Nat → Int32} {s inv : Nat → Nat} (hN : N ≤ 16448) (h1 : 1 ≤ h) (hh : h ≤ N) (hs : Perm N s inv) (hso : ∀ i, i < N → so i = nI (s i))
    {post : (Nat → Int32) → Prop} (hp : ∀ bt, (∃ b idx, Perm N b idx ∧ (∀ i, i < N → bt i = nI (b i)) ∧ (∀ p q, p + h < N → q + h < N → (idx p < idx q ↔ inv (p + h) < inv (q + h)))) → post bt) :
    vc_SO_sortByTails (nI h) 16448 (nI N) so post bt0 := by
  have htot : cnt (fun j => decide (h ≤ s j)) N ≤ N - h := by
    -- those below h are h many
    have hcomp : ∀ n, cnt (fun j => decide (h ≤ s j)) n + cnt (fun j => decide (s j < h)) n = n := by
      intro n
      induction n with
      | zero => rfl
      | succ n ih =>
        simp only [cnt, decide_eq_true_eq]
        split <;> split <;> omega
    -- an injection of [0,h) into the indices below N with s j < h
    have hinj : ∀ m, m ≤ h → m ≤ cnt (fun j => decide (s j < m)) N := by
      intro m
      induction m with
      | zero => intro _; omega
      | succ m ih =>
        intro hm
        have a := ih (by omega)
        have b := hs.2 m (by omega)
        have c := cnt_lt (n := N) (q := inv m) (P := fun j => decide (s j < m)) (Q := fun j => decide (s j < m + 1)) (fun j _ hj => by simp only [decide_eq_true_eq] at hj ⊢; omega) b.1 (by simp [b.2]) (by simp [b.2])
        omega
    have := hcomp N
    have := hinj h (Nat.le_refl h)
    omega
  -- where p goes
  have hfin : ∀ bt : Nat → Int32, (∀ i, i < h → bt i = nI (N - h + i)) → (∀ j, j < N → h ≤ s j → bt (h + cnt (fun j => decide (h ≤ s j)) j) = nI (s j - h)) → post bt := by
    intro bt hb1 hb2
    let idx : Nat → Nat := fun p => if p + h < N then h + cnt (fun j => decide (h ≤ s j)) (inv (p + h)) else p + h - N
    have hidx1 : ∀ p, p + h < N → idx p = h + cnt (fun j => decide (h ≤ s j)) (inv (p + h)) := fun p hp => if_pos hp
    have hidx2 : ∀ p, ¬ p + h < N → idx p = p + h - N := fun p hp => if_neg hp
    have hin : ∀ p, p < N → idx p < N := by
      intro p hp
      by_cases q : p + h < N
      · rw [hidx1 p q]
        have a := hs.2 (p + h) q
        have b := cnt_slt (P := fun j => decide (h ≤ s j)) a.1 (by simp [a.2])
        omega
      · rw [hidx2 p q]; omega
    have hbt : ∀ p, p < N → bt (idx p) = nI p := by
      intro p hp
      by_cases q : p + h < N
      · rw [hidx1 p q]
        have a := hs.2 (p + h) q
        have b := hb2 (inv (p + h)) a.1 (by omega)
        rw [b, a.2]
        congr 1
        omega
      · rw [hidx2 p q, hb1 _ (by omega)]
        congr 1
        omega
    have hinj2 : ∀ p q, p < N → q < N → idx p = idx q → p = q := by
      intro p q hp hq e
      have a := hbt p hp
      rw [e, hbt q hq, nI_eq (by omega) (by omega)] at a
      exact a.symm
    have honto := inj_onto hin hinj2
    have hinv : ∀ k, k < N → (bt k).toNatClampNeg < N ∧ idx (bt k).toNatClampNeg = k ∧ bt k = nI (bt k).toNatClampNeg := by
      intro k hk
      obtain ⟨p, hp, e⟩ := honto k hk
      have := hbt p hp
      rw [e] at this
      rw [this, nI_clamp (by omega)]
      exact ⟨hp, e, rfl⟩
    refine hp bt ⟨fun k => (bt k).toNatClampNeg, idx, ⟨fun k hk => ⟨(hinv k hk).1, (hinv k hk).2.1⟩, fun p hp => ⟨hin p hp, ?_⟩⟩, fun k hk => (hinv k hk).2.2, fun p q hp hq => ?_⟩
    · show (bt (idx p)).toNatClampNeg = p
      rw [hbt p hp, nI_clamp (by omega)]
    · rw [hidx1 p hp, hidx1 q hq]
      have a := hs.2 (p + h) hp
      have b := hs.2 (q + h) hq
      constructor
      · intro e
        by_cases g : inv (p + h) < inv (q + h)
        · exact g
        · have := cnt_step (fun j => decide (h ≤ s j)) (show inv (q + h) ≤ inv (p + h) by omega)
          omega
      · intro e
        have := cnt_slt (P := fun j => decide (h ≤ s j)) e (by simp [a.2])
        omega
  have key2 : ∀ k x, x + k = N → ∀ bt, (∀ i, i < h → bt i = nI (N - h + i)) → (∀ j, j < x → h ≤ s j → bt (h + cnt (fun j => decide (h ≤ s j)) j) = nI (s j - h)) →
      vc_SO_sortByTails_39 (nI h) 16448 (nI N) so post (k + 1) (nI (h + cnt (fun j => decide (h ≤ s j)) x)) (nI x) bt := by
    intro k
    induction k with
    | zero =>
      intro x hx bt hb1 hb2
      rw [vc_SO_sortByTails_39]
      simp (disch := omega) only [li0, li1, li2, li3, li4, li5, li6, li7, li8, li16, li20, li24, li31, li63, li64, li65, li200, li255, li256, li320, li16384, li16448, li65535, li65536, nI_add, nI_subI, nI_mulI, nI_ltI, nI_leI, nI_eq, nI_clamp, vpI, nI_maxN, nI_minN, ls_nI, half_nI, nI_addneg]
      refine ⟨fun _ => hfin bt hb1 (fun j hj => hb2 j (by omega)), fun q => absurd (by omega) q⟩
    | succ k ih =>
      intro x hx bt hb1 hb2
      rw [vc_SO_sortByTails_39]
      unfold vc_SO_sortByTails_71
      have hsx := (hs.1 x (by omega)).1
      have hc := cnt_le (fun j => decide (h ≤ s j)) x
      have hcs : cnt (fun j => decide (h ≤ s j)) (x + 1) = cnt (fun j => decide (h ≤ s j)) x + (if decide (h ≤ s x) = true then 1 else 0) := rfl
      simp (disch := omega) only [li0, li1, li2, li3, li4, li5, li6, li7, li8, li16, li20, li24, li31, li63, li64, li65, li200, li255, li256, li320, li16384, li16448, li65535, li65536, nI_add, nI_subI, nI_mulI, nI_ltI, nI_leI, nI_eq, nI_clamp, vpI, nI_maxN, nI_minN, ls_nI, half_nI, nI_addneg, hso]
      refine ⟨fun q => by omega, fun _ => ⟨by omega, fun q => ?_, fun q => ⟨by omega, ?_, ?_⟩⟩⟩
      · have e : cnt (fun j => decide (h ≤ s j)) x = cnt (fun j => decide (h ≤ s j)) (x + 1) := by
          rw [hcs, if_neg (by simp; omega)]; rfl
        rw [e]
        refine ih (x + 1) (by omega) bt hb1 (fun j hj hj2 => ?_)
        by_cases e2 : j = x
        · subst e2; omega
        · exact hb2 j (by omega) hj2
      · have := cnt_slt (P := fun j => decide (h ≤ s j)) (show x < N by omega) (by simp; omega)
        omega
      · have e : h + cnt (fun j => decide (h ≤ s j)) x + 1 = h + cnt (fun j => decide (h ≤ s j)) (x + 1) := by
          rw [hcs, if_pos (by simp; omega)]; omega
        rw [e, nI_subI (by omega)]
        refine ih (x + 1) (by omega) _ (fun i hi => ?_) (fun j hj hj2 => ?_)
        · rw [upN (by omega)]; exact hb1 i hi
        · by_cases e2 : j = x
          · rw [e2, upS]
          · have := cnt_slt (P := fun j => decide (h ≤ s j)) (show j < x by omega) (by simpa using hj2)
            rw [upN (by omega)]
            exact hb2 j (by omega) hj2
  have key : ∀ k x, x + k = h → ∀ bt, (∀ i, i < x → bt i = nI (N - h + i)) →
      vc_SO_sortByTails_10 (nI h) 16448 (nI N) so post (k + 1) (nI x) (nI (N - h + x)) bt := by
    intro k
    induction k with
    | zero =>
      intro x hx bt hb1
      rw [vc_SO_sortByTails_10]
      simp (disch := omega) only [li0, li1, li2, li3, li4, li5, li6, li7, li8, li16, li20, li24, li31, li63, li64, li65, li200, li255, li256, li320, li16384, li16448, li65535, li65536, nI_add, nI_subI, nI_mulI, nI_ltI, nI_leI, nI_eq, nI_clamp, vpI, nI_maxN, nI_minN, ls_nI, half_nI, nI_addneg]
      refine ⟨fun _ => ⟨N + 1, ?_⟩, fun q => absurd (by omega) q⟩
      have := key2 N 0 (by omega) bt (fun i hi => hb1 i (by omega)) (fun j hj => by omega)
      rw [show x = h by omega]
      exact this
    | succ k ih =>
      intro x hx bt hb1
      rw [vc_SO_sortByTails_10]
      simp (disch := omega) only [li0, li1, li2, li3, li4, li5, li6, li7, li8, li16, li20, li24, li31, li63, li64, li65, li200, li255, li256, li320, li16384, li16448, li65535, li65536, nI_add, nI_subI, nI_mulI, nI_ltI, nI_leI, nI_eq, nI_clamp, vpI, nI_maxN, nI_minN, ls_nI, half_nI, nI_addneg]
      refine ⟨fun q => by omega, fun _ => ⟨by omega, ih (x + 1) (by omega) _ (fun i hi => ?_)⟩⟩
      by_cases e : i = x
      · rw [e, upS]
      · rw [upN e]; exact hb1 i (by omega)
  unfold vc_SO_sortByTails
  refine ⟨h + 1, ?_⟩
  have := key h 0 (by omega) bt0 (fun i hi => by omega)
  rw [nI_subI hh]
  exact this
