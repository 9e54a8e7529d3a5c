/-! the reference's sort by halves -/
def Cmp (S : Nat) (key : Nat → Nat) (b : Int32) (start dof rz : Nat → Int32) : Prop :=
  ∀ x y, x < S → y < S → ∀ post : Int32 → Prop, (∀ v : Int32, (0 < v ↔ key y < key x) → (v = 0 ↔ key x = key y) → post v) → vc_MD_compare (nI x) (nI y) b start dof rz post
/-- o' is o, sorted between a and b -/
def Srt (S : Nat) (W o o' : Nat → Nat) (a b : Nat) : Prop :=
  (∀ k, ¬ (a ≤ k ∧ k < b) → o' k = o k) ∧ (∀ i j, a ≤ i → i < j → j < b → W (o' i) < W (o' j)) ∧
  (∀ k, a ≤ k → k < b → ∃ m, a ≤ m ∧ m < b ∧ o' k = o m) ∧ (∀ m, a ≤ m → m < b → ∃ k, a ≤ k ∧ k < b ∧ o m = o' k)
theorem m_copyback {S a b : Nat} {by_ : Int32} {start dof rz : Nat → Int32} (hS : S ≤ 16384) (hb : b ≤ S) {w : Nat → Int32} {post : (Nat → Int32) → (Nat → Int32) → Prop} {z0 : Nat → Int32}
    (hp : ∀ z, (∀ k, z k = if a ≤ k ∧ k < b then w k else z0 k) → post z w) :
    ∀ k x, x + k = b → a ≤ x → ∀ z, (∀ k, z k = if a ≤ k ∧ k < x then w k else z0 k) → vc_MD_sort_133 (nI a) (nI b) by_ start dof rz post (k + 1) (nI x) z w := by
  intro k
  induction k with
  | zero =>
    intro x hx hax z hz
    rw [vc_MD_sort_133]
    simp (disch := omega) only [li0, li1, li2, li3, li4, li5, li6, li7, li8, li16, li20, li24, li31, li63, li64, li65, li200, li255, li256, li320, li16384, li16448, li65535, li65536, nI_add, nI_subI, nI_mulI, nI_ltI, nI_leI, nI_eq, nI_clamp, vpI, nI_maxN, nI_minN, ls_nI, half_nI, nI_addneg]
    refine ⟨fun _ => hp z (fun k => ?_), fun q => absurd (by omega) q⟩
    rw [hz k, show x = b by omega]
  | succ k ih =>
    intro x hx hax z hz
    rw [vc_MD_sort_133]
    simp (disch := omega) only [li0, li1, li2, li3, li4, li5, li6, li7, li8, li16, li20, li24, li31, li63, li64, li65, li200, li255, li256, li320, li16384, li16448, li65535, li65536, nI_add, nI_subI, nI_mulI, nI_ltI, nI_leI, nI_eq, nI_clamp, vpI, nI_maxN, nI_minN, ls_nI, half_nI, nI_addneg]
    refine ⟨fun q => by omega, fun _ => ⟨by omega, by omega, ih (x + 1) (by omega) (by omega) _ (fun k => ?_)⟩⟩
    unfold upd
    by_cases e : k = x
    · rw [if_pos e, if_pos (by omega), e]
    · rw [if_neg e, hz k]
      by_cases e2 : a ≤ k ∧ k < x
      · rw [if_pos e2, if_pos (by omega)]
      · rw [if_neg e2, if_neg (by omega)]
theorem m_merge {S a mid b : Nat} {by_ : Int32} {start dof rz : Nat → Int32} {key t W : Nat → Nat} (hS : S ≤ 16384) (hb : b ≤ S) (ham : a ≤ mid) (hmb : mid ≤ b) (hc : Cmp S key by_ start dof rz)
    (hW1 : ∀ x y, key x < key y → W x < W y) (hW2 : ∀ x y, key x ≤ key y → t x < t y → W x < W y)
    {o : Nat → Nat} {z : Nat → Int32} (hz : ∀ k, k < S → z k = nI (o k)) (ho : ∀ k, k < S → o k < S)
    (hl : ∀ i j, a ≤ i → i < j → j < mid → W (o i) < W (o j)) (hr : ∀ i j, mid ≤ i → i < j → j < b → W (o i) < W (o j))
    (hx : ∀ i j, a ≤ i → i < mid → mid ≤ j → j < b → t (o i) < t (o j))
    {post : (Nat → Int32) → (Nat → Int32) → Prop} (hp : ∀ z' w', (∃ o', (∀ k, k < S → z' k = nI (o' k)) ∧ Srt S W o o' a b) → post z' w') :
    ∀ f x5 x6 x7, x7 + f = b → a ≤ x5 → x5 ≤ mid → mid ≤ x6 → x6 ≤ b → x7 + mid = x5 + x6 → ∀ w : Nat → Int32,
      (∀ i, a ≤ i → i < x7 → ∃ m, ((a ≤ m ∧ m < x5) ∨ (mid ≤ m ∧ m < x6)) ∧ w i = nI (o m)) → (∀ m, ((a ≤ m ∧ m < x5) ∨ (mid ≤ m ∧ m < x6)) → ∃ i, a ≤ i ∧ i < x7 ∧ w i = nI (o m)) →
      (∀ i j, a ≤ i → i < j → j < x7 → W (w i).toNatClampNeg < W (w j).toNatClampNeg) →
      (∀ i m, a ≤ i → i < x7 → ((x5 ≤ m ∧ m < mid) ∨ (x6 ≤ m ∧ m < b)) → W (w i).toNatClampNeg < W (o m)) →
      vc_MD_sort_41 (nI a) (nI b) by_ start dof rz post (f + 1) (nI mid) (nI x5) (nI x6) (nI x7) z w := by
  intro f
  induction f with
  | zero =>
    intro x5 x6 x7 h7 h5a h5m h6m h6b h567 w hw1 hw2 hw3 hw4
    rw [vc_MD_sort_41]
    simp (disch := omega) only [li0, li1, li2, li3, li4, li5, li6, li7, li8, li16, li20, li24, li31, li63, li64, li65, li200, li255, li256, li320, li16384, li16448, li65535, li65536, nI_add, nI_subI, nI_mulI, nI_ltI, nI_leI, nI_eq, nI_clamp, vpI, nI_maxN, nI_minN, ls_nI, half_nI, nI_addneg]
    refine ⟨fun _ => ⟨b - a + 1, m_copyback (z0 := z) hS hb (fun z' hz' => ?_) (b - a) a (by omega) (by omega) z (fun k => by rw [if_neg (by omega)])⟩, fun q => absurd (by omega) q⟩
    have e7 : x7 = b := by omega
    have e5 : x5 = mid := by omega
    have e6 : x6 = b := by omega
    subst e7 e5 e6
    have hcl : ∀ k, a ≤ k → k < x6 → w k = nI (w k).toNatClampNeg := by
      intro k h1 h2
      obtain ⟨m, hm, e⟩ := hw1 k h1 h2
      have := ho m (by omega)
      rw [e, nI_clamp (by omega)]
    refine hp z' w ⟨fun k => if a ≤ k ∧ k < x6 then (w k).toNatClampNeg else o k, fun k hk => ?_, fun k hk => if_neg hk, fun i j hi hij hj => ?_, fun k h1 h2 => ?_, fun m h1 h2 => ?_⟩
    · rw [hz' k]
      show _ = nI (if a ≤ k ∧ k < x6 then (w k).toNatClampNeg else o k)
      by_cases q : a ≤ k ∧ k < x6
      · rw [if_pos q, if_pos q]; exact hcl k q.1 q.2
      · rw [if_neg q, if_neg q]; exact hz k hk
    · show W (if a ≤ i ∧ i < x6 then _ else _) < W (if a ≤ j ∧ j < x6 then _ else _)
      rw [if_pos (by omega), if_pos (by omega)]
      exact hw3 i j hi hij hj
    · obtain ⟨m, hm, e⟩ := hw1 k h1 h2
      refine ⟨m, by omega, by omega, ?_⟩
      show (if a ≤ k ∧ k < x6 then _ else _) = _
      have := ho m (by omega)
      rw [if_pos (by omega), e, nI_clamp (by omega)]
    · obtain ⟨k, h3, h4, e⟩ := hw2 m (by omega)
      refine ⟨k, h3, h4, ?_⟩
      show _ = (if a ≤ k ∧ k < x6 then _ else _)
      have := ho m (by omega)
      rw [if_pos (by omega), e, nI_clamp (by omega)]
  | succ f ih =>
    intro x5 x6 x7 h7 h5a h5m h6m h6b h567 w hw1 hw2 hw3 hw4
    have hne7 : ∀ i, i < x7 → ∀ v, upd w x7 v i = w i := fun i hi v => upN (by omega)
    have cl : ∀ m, m < S → (nI (o m)).toNatClampNeg = o m := fun m hm => nI_clamp (by have := ho m hm; omega)
    -- take the left one
    have left : x5 < mid → (∀ m, x6 ≤ m → m < b → W (o x5) < W (o m)) → vc_MD_sort_82 (nI a) (nI b) by_ start dof rz post (fun x4' x5' x6' x7' z_order' z_work' => vc_MD_sort_41 (nI a) (nI b) by_ start dof rz post (f + 1) x4' x5' x6' x7' z_order' z_work') (nI mid) (nI x5) (nI x6) (nI x7) z w := by
      intro g1 g2
      unfold vc_MD_sort_82 vc_MD_sort_87 vc_MD_sort_123
      simp (disch := omega) only [li0, li1, li2, li3, li4, li5, li6, li7, li8, li16, li20, li24, li31, li63, li64, li65, li200, li255, li256, li320, li16384, li16448, li65535, li65536, nI_add, nI_subI, nI_mulI, nI_ltI, nI_leI, nI_eq, nI_clamp, vpI, nI_maxN, nI_minN, ls_nI, half_nI, nI_addneg, hz]
      refine ⟨fun e => absurd e (by decide), fun _ => ⟨by omega, by omega, ih (x5 + 1) x6 (x7 + 1) (by omega) (by omega) (by omega) (by omega) (by omega) (by omega) _ (fun i h1 h2 => ?_) (fun m hm => ?_) (fun i j h1 h2 h3 => ?_) (fun i m h1 h2 h3 => ?_)⟩⟩
      · by_cases e : i = x7
        · exact ⟨x5, by omega, by rw [e, upS]⟩
        · obtain ⟨m, q1, q2⟩ := hw1 i h1 (by omega)
          exact ⟨m, by omega, by rw [upN e]; exact q2⟩
      · by_cases e : m = x5
        · exact ⟨x7, by omega, by omega, by rw [e, upS]⟩
        · obtain ⟨i, q1, q2, q3⟩ := hw2 m (by omega)
          exact ⟨i, q1, by omega, by rw [hne7 i q2]; exact q3⟩
      · rw [hne7 i (by omega)]
        by_cases e : j = x7
        · rw [e, upS, cl _ (by omega)]
          exact hw4 i x5 h1 (by omega) (by omega)
        · rw [hne7 j (by omega)]
          exact hw3 i j h1 h2 (by omega)
      · by_cases e : i = x7
        · rw [e, upS, cl _ (by omega)]
          rcases h3 with h3 | h3
          · exact hl x5 m (by omega) (by omega) h3.2
          · exact g2 m h3.1 h3.2
        · rw [hne7 i (by omega)]
          exact hw4 i m h1 (by omega) (by omega)
    -- take the right one
    have right : x6 < b → (∀ m, x5 ≤ m → m < mid → W (o x6) < W (o m)) → vc_MD_sort_86 (nI a) (nI b) by_ start dof rz post (fun x4' x5' x6' x7' z_order' z_work' => vc_MD_sort_41 (nI a) (nI b) by_ start dof rz post (f + 1) x4' x5' x6' x7' z_order' z_work') (nI mid) (nI x5) (nI x6) (nI x7) z w := by
      intro g1 g2
      unfold vc_MD_sort_86 vc_MD_sort_87 vc_MD_sort_123
      simp (disch := omega) only [li0, li1, li2, li3, li4, li5, li6, li7, li8, li16, li20, li24, li31, li63, li64, li65, li200, li255, li256, li320, li16384, li16448, li65535, li65536, nI_add, nI_subI, nI_mulI, nI_ltI, nI_leI, nI_eq, nI_clamp, vpI, nI_maxN, nI_minN, ls_nI, half_nI, nI_addneg, hz]
      refine ⟨fun _ => ⟨by omega, by omega, ih x5 (x6 + 1) (x7 + 1) (by omega) (by omega) (by omega) (by omega) (by omega) (by omega) _ (fun i h1 h2 => ?_) (fun m hm => ?_) (fun i j h1 h2 h3 => ?_) (fun i m h1 h2 h3 => ?_)⟩, fun e => absurd trivial e⟩
      · by_cases e : i = x7
        · exact ⟨x6, by omega, by rw [e, upS]⟩
        · obtain ⟨m, q1, q2⟩ := hw1 i h1 (by omega)
          exact ⟨m, by omega, by rw [upN e]; exact q2⟩
      · by_cases e : m = x6
        · exact ⟨x7, by omega, by omega, by rw [e, upS]⟩
        · obtain ⟨i, q1, q2, q3⟩ := hw2 m (by omega)
          exact ⟨i, q1, by omega, by rw [hne7 i q2]; exact q3⟩
      · rw [hne7 i (by omega)]
        by_cases e : j = x7
        · rw [e, upS, cl _ (by omega)]
          exact hw4 i x6 h1 (by omega) (by omega)
        · rw [hne7 j (by omega)]
          exact hw3 i j h1 h2 (by omega)
      · by_cases e : i = x7
        · rw [e, upS, cl _ (by omega)]
          rcases h3 with h3 | h3
          · exact g2 m h3.1 h3.2
          · exact hr x6 m (by omega) (by omega) h3.2
        · rw [hne7 i (by omega)]
          exact hw4 i m h1 (by omega) (by omega)
    rw [vc_MD_sort_41]
    simp (disch := omega) only [li0, li1, li2, li3, li4, li5, li6, li7, li8, li16, li20, li24, li31, li63, li64, li65, li200, li255, li256, li320, li16384, li16448, li65535, li65536, nI_add, nI_subI, nI_mulI, nI_ltI, nI_leI, nI_eq, nI_clamp, vpI, nI_maxN, nI_minN, ls_nI, half_nI, nI_addneg]
    refine ⟨fun q => by omega, fun _ => ⟨fun q => left (by omega) (fun m h1 h2 => by omega), fun q => ⟨fun q2 => right (by omega) (fun m h1 h2 => by omega), fun q2 => ⟨by omega, by omega, ?_⟩⟩⟩⟩
    rw [hz x5 (by omega), hz x6 (by omega)]
    refine hc _ _ (ho _ (by omega)) (ho _ (by omega)) _ (fun v v1 v2 => ⟨fun g => right (by omega) (fun m h1 h2 => ?_), fun g => left (by omega) (fun m h1 h2 => ?_)⟩)
    · have b1 := hW1 _ _ (v1.mp g)
      by_cases e : m = x5
      · rw [e]; exact b1
      · have := hl x5 m (by omega) (by omega) h2
        omega
    · have b0 : key (o x5) ≤ key (o x6) := Nat.le_of_not_lt (fun e => g (v1.mpr e))
      have b1 := hW2 _ _ b0 (hx x5 x6 (by omega) (by omega) (by omega) (by omega))
      by_cases e : m = x6
      · rw [e]; exact b1
      · have := hr x6 m (by omega) (by omega) h2
        omega
theorem m_sort {S : Nat} {by_ : Int32} {start dof rz : Nat → Int32} {key t W : Nat → Nat} (hS : S ≤ 16384) (hc : Cmp S key by_ start dof rz)
    (hW1 : ∀ x y, key x < key y → W x < W y) (hW2 : ∀ x y, key x ≤ key y → t x < t y → W x < W y) :
    ∀ d a b, a ≤ b → b ≤ S → b - a ≤ 2 ^ d → ∀ (o : Nat → Nat) (z w : Nat → Int32), (∀ k, k < S → z k = nI (o k)) → (∀ k, k < S → o k < S) → (∀ i j, a ≤ i → i < j → j < b → t (o i) < t (o j)) →
      ∀ post : (Nat → Int32) → (Nat → Int32) → Prop, (∀ z' w', (∃ o', (∀ k, k < S → z' k = nI (o' k)) ∧ Srt S W o o' a b) → post z' w') →
      vc_MD_sort start dof rz (d + 1) (nI a) (nI b) by_ post z w := by
  intro d
  induction d with
  | zero =>
    intro a b hab hb hd o z w hz ho ht post hp
    rw [vc_MD_sort]
    simp (disch := omega) only [li0, li1, li2, li3, li4, li5, li6, li7, li8, li16, li20, li24, li31, li63, li64, li65, li200, li255, li256, li320, li16384, li16448, li65535, li65536, nI_add, nI_subI, nI_mulI, nI_ltI, nI_leI, nI_eq, nI_clamp, vpI, nI_maxN, nI_minN, ls_nI, half_nI, nI_addneg]
    refine ⟨fun q => by omega, fun _ => hp z w ⟨o, hz, fun k _ => rfl, fun i j h1 h2 h3 => by omega, fun k h1 h2 => ⟨k, h1, h2, rfl⟩, fun k h1 h2 => ⟨k, h1, h2, rfl⟩⟩⟩
  | succ d ih =>
    intro a b hab hb hd o z w hz ho ht post hp
    rw [vc_MD_sort]
    have hdiv : nI (a + b) / nI 2 = nI ((a + b) / 2) := pk_div (by omega) (by omega) (by omega)
    simp (disch := omega) only [li0, li1, li2, li3, li4, li5, li6, li7, li8, li16, li20, li24, li31, li63, li64, li65, li200, li255, li256, li320, li16384, li16448, li65535, li65536, nI_add, nI_subI, nI_mulI, nI_ltI, nI_leI, nI_eq, nI_clamp, vpI, nI_maxN, nI_minN, ls_nI, half_nI, nI_addneg, hdiv]
    rw [Nat.pow_succ] at hd
    refine ⟨fun q => ?_, fun q => hp z w ⟨o, hz, fun k _ => rfl, fun i j h1 h2 h3 => by omega, fun k h1 h2 => ⟨k, h1, h2, rfl⟩, fun k h1 h2 => ⟨k, h1, h2, rfl⟩⟩⟩
    refine ih a ((a + b) / 2) (by omega) (by omega) (by omega) o z w hz ho (fun i j h1 h2 h3 => ht i j h1 h2 (by omega)) _ ?_
    rintro z1 w1 ⟨o1, hz1, s1⟩
    have ho1 : ∀ k, k < S → o1 k < S := by
      intro k hk
      by_cases g : a ≤ k ∧ k < (a + b) / 2
      · obtain ⟨m, m1, m2, e⟩ := s1.2.2.1 k g.1 g.2
        rw [e]; exact ho m (by omega)
      · rw [s1.1 k g]; exact ho k hk
    refine ih ((a + b) / 2) b (by omega) (by omega) (by omega) o1 z1 w1 hz1 ho1 (fun i j h1 h2 h3 => ?_) _ ?_
    · rw [s1.1 i (by omega), s1.1 j (by omega)]
      exact ht i j (by omega) h2 h3
    rintro z2 w2 ⟨o2, hz2, s2⟩
    have ho2 : ∀ k, k < S → o2 k < S := by
      intro k hk
      by_cases g : (a + b) / 2 ≤ k ∧ k < b
      · obtain ⟨m, m1, m2, e⟩ := s2.2.2.1 k g.1 g.2
        rw [e]; exact ho1 m (by omega)
      · rw [s2.1 k g]; exact ho1 k hk
    -- o2 against o
    have toO : ∀ k, a ≤ k → k < b → ∃ m, a ≤ m ∧ m < b ∧ o2 k = o m ∧ (k < (a + b) / 2 → m < (a + b) / 2) ∧ ((a + b) / 2 ≤ k → (a + b) / 2 ≤ m) := by
      intro k h1 h2
      by_cases g : k < (a + b) / 2
      · obtain ⟨m, m1, m2, e⟩ := s1.2.2.1 k h1 g
        refine ⟨m, m1, by omega, ?_, fun _ => m2, fun _ => by omega⟩
        rw [s2.1 k (by omega)]; exact e
      · obtain ⟨m, m1, m2, e⟩ := s2.2.2.1 k (by omega) h2
        refine ⟨m, by omega, m2, ?_, fun _ => by omega, fun _ => m1⟩
        rw [e, s1.1 m (by omega)]
    have ofO : ∀ m, a ≤ m → m < b → ∃ k, a ≤ k ∧ k < b ∧ o m = o2 k := by
      intro m h1 h2
      by_cases g : m < (a + b) / 2
      · obtain ⟨k, k1, k2, e⟩ := s1.2.2.2 m h1 g
        refine ⟨k, k1, by omega, ?_⟩
        rw [s2.1 k (by omega)]; exact e
      · obtain ⟨k, k1, k2, e⟩ := s2.2.2.2 m (by omega) h2
        refine ⟨k, by omega, k2, ?_⟩
        rw [← e, s1.1 m (by omega)]
    refine ⟨b - a + 1, m_merge (t := t) hS hb (by omega) (by omega) hc hW1 hW2 hz2 ho2 (fun i j h1 h2 h3 => ?_) (fun i j h1 h2 h3 => s2.2.1 i j h1 h2 h3) (fun i j h1 h2 h3 h4 => ?_) ?_ (b - a) a ((a + b) / 2) a (by omega) (by omega) (by omega) (by omega) (by omega) (by omega) w2 (fun i h1 h2 => by omega) (fun m hm => by omega) (fun i j h1 h2 h3 => by omega) (fun i m h1 h2 => by omega)⟩
    · rw [s2.1 i (by omega), s2.1 j (by omega)]
      exact s1.2.1 i j h1 h2 h3
    · obtain ⟨m, m1, m2, e, e2, e3⟩ := toO i h1 (by omega)
      obtain ⟨m', m1', m2', e', e2', e3'⟩ := toO j (by omega) h4
      rw [e, e']
      have := e2 h2
      have := e3' h3
      exact ht m m' m1 (by omega) m2'
    · rintro z' w' ⟨o', hz', s'⟩
      refine hp z' w' ⟨o', hz', fun k hk => ?_, s'.2.1, fun k h1 h2 => ?_, fun m h1 h2 => ?_⟩
      · rw [s'.1 k hk, s2.1 k (by omega), s1.1 k (by omega)]
      · obtain ⟨m, m1, m2, e⟩ := s'.2.2.1 k h1 h2
        obtain ⟨m', m1', m2', e', _⟩ := toO m m1 m2
        exact ⟨m', m1', m2', by rw [e, e']⟩
      · obtain ⟨k, k1, k2, e⟩ := ofO m h1 h2
        obtain ⟨k', k1', k2', e'⟩ := s'.2.2.2 k k1 k2
        exact ⟨k', k1', k2', by rw [e, e']⟩
