/-! the reference's build -/
theorem perm_of {n : Nat} {f : Nat → Nat} (h1 : ∀ i, i < n → f i < n) (h2 : ∀ i j, i < n → j < n → f i = f j → i = j) : ∃ inv, Perm n f inv := by
  have ho := inj_onto h1 h2
  refine ⟨fun y => if h : y < n then Classical.choose (ho y h) else 0, fun k hk => ⟨h1 k hk, ?_⟩, fun p hp => ?_⟩
  · have a := h1 k hk
    have c := Classical.choose_spec (ho (f k) a)
    show (if h : f k < n then Classical.choose (ho (f k) h) else 0) = k
    rw [dif_pos a]
    exact h2 _ _ c.1 hk c.2
  · have c := Classical.choose_spec (ho p hp)
    show (if h : p < n then Classical.choose (ho p h) else 0) < n ∧ f (if h : p < n then Classical.choose (ho p h) else 0) = p
    rw [dif_pos hp]
    exact c
def smx (K ow cs dm : Nat → Nat) (x : Nat) : Nat → Nat := fun i => if i < lenf ow cs (x + dm x) then K (x + dm x + i) + 1 else 0
theorem smx_lt {K ow cs dm : Nat → Nat} {n x : Nat} (hd : DocOk K ow cs n) (hm : DocM cs dm n) (hx : x < cs n - n) (i : Nat) : smx K ow cs dm x i < 400 := by
  unfold smx
  split
  · rename_i q
    have := doc_in hd (dm_at hd hm hx).2.1 q
    omega
  · omega
def RI (K ow cs dm : Nat → Nat) (n h : Nat) (r : Nat → Nat) : Prop :=
  (∀ x, x < cs n - n → r x < 19000) ∧ ∀ x y, x < cs n - n → y < cs n - n → (r x < r y ↔ cod (smx K ow cs dm x) h < cod (smx K ow cs dm y) h)
theorem cod_zero (u : Nat → Nat) (h : Nat) (hu : ∀ i, u i = 0) : cod u h = 0 := by
  induction h with
  | zero => rfl
  | succ h ih => show cod u h * 400 + u h = 0; rw [ih, hu h]
theorem cod_pos {u : Nat → Nat} {h : Nat} (hh : 1 ≤ h) (hu : 0 < u 0) : 0 < cod u h := by
  induction h with
  | zero => omega
  | succ h ih =>
    show 0 < cod u h * 400 + u h
    by_cases q : h = 0
    · subst q; omega
    · have := ih (by omega)
      omega
theorem mkey_cod {K ow cs dm r : Nat → Nat} {n h x y : Nat} (hd : DocOk K ow cs n) (hm : DocM cs dm n) (hh : 1 ≤ h) (hr : RI K ow cs dm n h r) (hx : x < cs n - n) (hy : y < cs n - n) :
    mkey ow cs dm r h x < mkey ow cs dm r h y ↔ cod (smx K ow cs dm x) (h + h) < cod (smx K ow cs dm y) (h + h) := by
  have sh : ∀ x, x < cs n - n → ((h < lenf ow cs (x + dm x) → cod (fun i => smx K ow cs dm x (h + i)) h = cod (smx K ow cs dm (x + h)) h ∧ x + h < cs n - n ∧ 0 < cod (smx K ow cs dm (x + h)) h) ∧ (¬ h < lenf ow cs (x + dm x) → cod (fun i => smx K ow cs dm x (h + i)) h = 0)) := by
    intro x hx
    constructor
    · intro q
      have a := dm_next hd hm hx q
      refine ⟨?_, a.1, ?_⟩
      · congr 1
        funext i
        unfold smx
        rw [a.2.2, a.2.1, show x + h + dm x + i = x + dm x + (h + i) by omega]
        by_cases g : h + i < lenf ow cs (x + dm x)
        · rw [if_pos g, if_pos (by omega)]
        · rw [if_neg g, if_neg (by omega)]
      · refine cod_pos hh ?_
        unfold smx
        rw [a.2.2, if_pos (by omega)]
        omega
    · intro q
      refine cod_zero _ _ (fun i => ?_)
      unfold smx
      rw [if_neg (by omega)]
  have ratlt : ∀ x, x < cs n - n → rat ow cs dm r h x < 20000 := by
    intro x hx
    unfold rat
    split
    · rename_i q
      have := hr.1 _ (dm_next hd hm hx q).1
      omega
    · omega
  have hrat : rat ow cs dm r h x < rat ow cs dm r h y ↔ cod (fun i => smx K ow cs dm x (h + i)) h < cod (fun i => smx K ow cs dm y (h + i)) h := by
    unfold rat
    by_cases qx : h < lenf ow cs (x + dm x) <;> by_cases qy : h < lenf ow cs (y + dm y)
    · have a := (sh x hx).1 qx
      have b := (sh y hy).1 qy
      rw [if_pos qx, if_pos qy, a.1, b.1, ← hr.2 _ _ a.2.1 b.2.1]
      omega
    · have a := (sh x hx).1 qx
      have b := (sh y hy).2 qy
      rw [if_pos qx, if_neg qy, b]
      omega
    · have a := (sh x hx).2 qx
      have b := (sh y hy).1 qy
      rw [if_neg qx, if_pos qy, a, b.1]
      omega
    · have a := (sh x hx).2 qx
      have b := (sh y hy).2 qy
      rw [if_neg qx, if_neg qy, a, b]
  have heq : r x = r y ↔ cod (smx K ow cs dm x) h = cod (smx K ow cs dm y) h := by
    have a := hr.2 x y hx hy
    have b := hr.2 y x hy hx
    omega
  rw [cod_twice (smx_lt hd hm hx) (smx_lt hd hm hy), ← hrat, ← heq, ← hr.2 x y hx hy]
  have a := ratlt x hx
  have b := ratlt y hy
  unfold mkey
  omega
/-- the reference's order is the class's -/
theorem ordM {K ow cs dm : Nat → Nat} {n H x y : Nat} (hd : DocOk K ow cs n) (hm : DocM cs dm n) (hH : cs n - n ≤ H) (hx : x < cs n - n) (hy : y < cs n - n)
    (h : cod (smx K ow cs dm x) H < cod (smx K ow cs dm y) H ∨ (cod (smx K ow cs dm x) H = cod (smx K ow cs dm y) H ∧ x < y)) : XX K (cs n) (x + dm x) < XX K (cs n) (y + dm y) := by
  have a := dm_at hd hm hx
  have b := dm_at hd hm hy
  have lx := doc_len hd a.2.1
  have ly := doc_len hd b.2.1
  have fin : ∀ l, l ≤ lenf ow cs (x + dm x) → l ≤ lenf ow cs (y + dm y) → (∀ i, i < l → K (x + dm x + i) = K (y + dm y + i)) → K (x + dm x + l) < K (y + dm y + l) → XX K (cs n) (x + dm x) < XX K (cs n) (y + dm y) := by
    intro l l1 l2 h1 h2
    have hl : lcp K (cs n) (x + dm x) (y + dm y) = l := lcp_is hd (by omega) (by omega) h1 (by omega)
    have hne : x + dm x ≠ y + dm y := fun e => by rw [e] at h2; omega
    rw [XX_lt hd a.2.1 b.2.1 hne, hl]
    exact h2
  have h64 := hd.2.2.2.1
  rcases h with h | ⟨h, hxy⟩
  · obtain ⟨l, h1, h2, h3⟩ := (cod_lt (smx_lt hd hm hx) (smx_lt hd hm hy) H).mp h
    have ly2 : l < lenf ow cs (y + dm y) := by
      by_cases q : l < lenf ow cs (y + dm y)
      · exact q
      · unfold smx at h3
        rw [if_neg q] at h3
        omega
    have hi : ∀ i, i < l → i < lenf ow cs (x + dm x) ∧ K (x + dm x + i) = K (y + dm y + i) := by
      intro i hi
      have e := h2 i hi
      unfold smx at e
      rw [if_pos (show i < lenf ow cs (y + dm y) by omega)] at e
      by_cases q : i < lenf ow cs (x + dm x)
      · rw [if_pos q] at e
        exact ⟨q, by omega⟩
      · rw [if_neg q] at e; omega
    have lx2 : l ≤ lenf ow cs (x + dm x) := by
      by_cases q : l = 0
      · omega
      · have := (hi (l - 1) (by omega)).1
        omega
    refine fin l lx2 (by omega) (fun i h => (hi i h).2) ?_
    have ky := doc_in hd b.2.1 ly2
    by_cases q : l < lenf ow cs (x + dm x)
    · unfold smx at h3
      rw [if_pos q, if_pos ly2] at h3
      omega
    · have e : l = lenf ow cs (x + dm x) := by omega
      have := lx.2.2.1
      rw [← e, a.2.2.1] at this
      omega
  · have e := (cod_eq (smx_lt hd hm hx) (smx_lt hd hm hy) H).mp h
    have el : lenf ow cs (x + dm x) = lenf ow cs (y + dm y) := by
      by_cases q : lenf ow cs (x + dm x) < lenf ow cs (y + dm y)
      · have := e (lenf ow cs (x + dm x)) (by omega)
        unfold smx at this
        rw [if_neg (by omega), if_pos q] at this
        omega
      · by_cases q2 : lenf ow cs (y + dm y) < lenf ow cs (x + dm x)
        · have := e (lenf ow cs (y + dm y)) (by omega)
          unfold smx at this
          rw [if_pos q2, if_neg (by omega)] at this
          omega
        · omega
    refine fin (lenf ow cs (x + dm x)) (Nat.le_refl _) (by omega) (fun i hi => ?_) ?_
    · have := e i (by omega)
      unfold smx at this
      rw [if_pos hi, if_pos (by omega)] at this
      omega
    · rw [lx.2.2.1, a.2.2.1, el, ly.2.2.1, b.2.2.1]
      have := dm_mono hd hm hy (Nat.le_of_lt hxy)
      by_cases q : dm x = dm y
      · have c := a.2.2.2.2.2.2.1
        have d := b.2.2.2.2.2.2.1
        rw [el, q] at c
        omega
      · omega
def OrdM (order rankOf same : Nat → Int32) (K ow cs dm : Nat → Nat) (n : Nat) (sa rk : Nat → Nat) : Prop :=
  (∀ k, k < cs n - n → order k = nI (sa (n + k) - ow (sa (n + k)))) ∧ (∀ x, x < cs n - n → rankOf x = nI (rk (x + dm x) - n)) ∧ (∀ k, k < cs n - n → same k = nI (LL K (cs n) sa (n + k)))
theorem ord_enum {K ow cs dm : Nat → Nat} {n H : Nat} {sa rk r o inv : Nat → Nat} (hd : DocOk K ow cs n) (hm : DocM cs dm n) (hs : SAok K (cs n) sa rk) (hH : cs n - n ≤ H) (hr : RI K ow cs dm n H r) (ho : Perm (cs n - n) o inv)
    (hso : ∀ i j, i < j → j < cs n - n → r (o i) < r (o j) ∨ (r (o i) = r (o j) ∧ o i < o j)) :
    ∀ k, k < cs n - n → o k + dm (o k) = sa (n + k) := by
  have hnN : n ≤ cs n := by
    have := doc_mono hd (show 0 ≤ n by omega) (Nat.le_refl n)
    omega
  refine enum_uniq (X := XX K (cs n)) (s := fun k => o k + dm (o k)) (t := fun k => sa (n + k)) (fun i j hij hj => ?_) (fun i j hij hj => hs.2.2 _ _ (by omega) (by omega)) (fun k hk => ?_) (fun k hk => ?_)
  · have a := (ho.1 i (by omega)).1
    have b := (ho.1 j hj).1
    refine ordM hd hm hH a b ?_
    have h1 := hr.2 _ _ a b
    have h2 := hr.2 _ _ b a
    have := hso i j hij hj
    omega
  · have a := dm_at hd hm (ho.1 k hk).1
    have b := hs.2.1 _ a.2.1
    have c := SA_mark_iff hd hs b.1
    rw [b.2] at c
    refine ⟨rk (o k + dm (o k)) - n, by omega, ?_⟩
    show _ = sa (n + (rk (o k + dm (o k)) - n))
    rw [show n + (rk (o k + dm (o k)) - n) = rk (o k + dm (o k)) by omega, b.2]
  · have b := hs.1 (n + k) (by omega)
    have c := SA_mark_iff hd hs (show n + k < cs n by omega)
    have e := dm_of hd hm b.1 (by omega)
    have f := ho.2 _ e.1
    refine ⟨inv (sa (n + k) - ow (sa (n + k))), f.1, ?_⟩
    show sa (n + k) = o (inv (sa (n + k) - ow (sa (n + k)))) + dm (o (inv (sa (n + k) - ow (sa (n + k)))))
    rw [f.2, e.2.1]
    omega
theorem m_b277 {row start dof : Nat → Int32} {K ow cs dm : Nat → Nat} {n : Nat} {sa rk o inv : Nat → Nat} (h : LibM row start dof K ow cs dm n) (hs : SAok K (cs n) sa rk) (ho : Perm (cs n - n) o inv) (hosa : ∀ k, k < cs n - n → o k + dm (o k) = sa (n + k))
    {zd zr th sg ix : Int32} {oz rz wz nz : Nat → Int32} (hoz : ∀ k, k < cs n - n → oz k = nI (o k))
    {post : Int32 → Int32 → Int32 → Int32 → Int32 → (Nat → Int32) → (Nat → Int32) → (Nat → Int32) → (Nat → Int32) → (Nat → Int32) → Prop}
    (hp : ∀ sz, (∀ k, k < cs n - n → sz k = nI (LL K (cs n) sa (n + k))) → sz (cs n - n) = nI 0 → post (nI (cs n - n)) th sg ix (nI (cs n - n)) oz rz sz wz nz) :
    ∀ f x, x + f = cs n - n + 1 → ∀ sz, (∀ k, k < x → k < cs n - n → sz k = nI (LL K (cs n) sa (n + k))) → (cs n - n < x → sz (cs n - n) = nI 0) →
      vc_MD_build_277 zd zr row start dof post (f + 1) (nI x) th sg ix (nI (cs n - n)) oz rz sz wz nz := by
  have hd := h.1
  have hm := h.2.1
  have hS := doc_S hd
  have hnN : n ≤ cs n := by
    have := doc_mono hd (show 0 ≤ n by omega) (Nat.le_refl n)
    omega
  have h64 := hd.2.2.2.1
  intro f
  induction f with
  | zero =>
    intro x hx sz h1 h2
    rw [vc_MD_build_277]
    simp (disch := omega) only [li0, li1, li2, li3, li4, li5, li6, li7, li8, li16, li20, li24, li31, li63, li64, li65, li200, li255, li256, li320, li16384, li16448, li65535, li65536, nI_add, nI_subI, nI_mulI, nI_ltI, nI_leI, nI_eq, nI_clamp, vpI, nI_maxN, nI_minN, ls_nI, half_nI, nI_addneg]
    exact ⟨fun _ => hp sz (fun k hk => h1 k (by omega) hk) (h2 (by omega)), fun q => absurd (by omega) q⟩
  | succ f ih =>
    intro x hx sz h1 h2
    have fin : ∀ v, (x < cs n - n → v = LL K (cs n) sa (n + x)) → (x = cs n - n → v = 0) →
        vc_MD_build_337 zd zr row start dof post (fun x2' z_thrown' z_soughtSize' z_indexed' z_suffixes' z_order' z_rankOf' z_same' z_work' z_next' => vc_MD_build_277 zd zr row start dof post (f + 1) x2' z_thrown' z_soughtSize' z_indexed' z_suffixes' z_order' z_rankOf' z_same' z_work' z_next') (nI x) (nI x) (nI v) th sg ix (nI (cs n - n)) oz rz sz wz nz := by
      intro v v1 v2
      unfold vc_MD_build_337
      simp (disch := omega) only [li0, li1, li2, li3, li4, li5, li6, li7, li8, li16, li20, li24, li31, li63, li64, li65, li200, li255, li256, li320, li16384, li16448, li65535, li65536, nI_add, nI_subI, nI_mulI, nI_ltI, nI_leI, nI_eq, nI_clamp, vpI, nI_maxN, nI_minN, ls_nI, half_nI, nI_addneg]
      refine ⟨by omega, ih (x + 1) (by omega) _ (fun k k1 k2 => ?_) (fun q => ?_)⟩
      · by_cases e : k = x
        · rw [e, upS, v1 (by omega)]
        · rw [upN e]; exact h1 k (by omega) k2
      · by_cases e : cs n - n = x
        · rw [e, upS, v2 e.symm]
        · omega
    have mid : vc_MD_build_303 zd zr row start dof post (fun x2' z_thrown' z_soughtSize' z_indexed' z_suffixes' z_order' z_rankOf' z_same' z_work' z_next' => vc_MD_build_277 zd zr row start dof post (f + 1) x2' z_thrown' z_soughtSize' z_indexed' z_suffixes' z_order' z_rankOf' z_same' z_work' z_next') (nI x) (nI x) th sg ix (nI (cs n - n)) oz rz sz wz nz := by
      unfold vc_MD_build_303 vc_MD_build_315
      simp (disch := omega) only [li0, li1, li2, li3, li4, li5, li6, li7, li8, li16, li20, li24, li31, li63, li64, li65, li200, li255, li256, li320, li16384, li16448, li65535, li65536, nI_add, nI_subI, nI_mulI, nI_ltI, nI_leI, nI_eq, nI_clamp, vpI, nI_maxN, nI_minN, ls_nI, half_nI, nI_addneg]
      refine ⟨fun q => fin 0 (fun g => ?_) (fun _ => rfl), fun q => ⟨fun q2 => ?_, fun q2 => fin 0 (fun g => by omega) (fun _ => rfl)⟩⟩
      · rw [q, Nat.add_zero, LL_mark hd hs (Nat.le_refl n) (by omega)]
      · have a := ho.1 (x - 1) (by omega)
        have b := ho.1 x (by omega)
        have hne : o (x - 1) ≠ o x := fun e => by
          have := a.2
          rw [e, b.2] at this
          omega
        simp (disch := omega) only [li0, li1, li2, li3, li4, li5, li6, li7, li8, li16, li20, li24, li31, li63, li64, li65, li200, li255, li256, li320, li16384, li16448, li65535, li65536, nI_add, nI_subI, nI_mulI, nI_ltI, nI_leI, nI_eq, nI_clamp, vpI, nI_maxN, nI_minN, ls_nI, half_nI, nI_addneg, hoz]
        refine ⟨by omega, by omega, m_alike h a.1 b.1 ?_⟩
        refine fin _ (fun _ => ?_) (fun e => by omega)
        rw [if_neg hne, hosa _ (by omega), hosa _ (by omega)]
        have e : n + x = n + (x - 1) + 1 := by omega
        rw [e, LL_succ]
    rw [vc_MD_build_277]
    simp (disch := omega) only [li0, li1, li2, li3, li4, li5, li6, li7, li8, li16, li20, li24, li31, li63, li64, li65, li200, li255, li256, li320, li16384, li16448, li65535, li65536, nI_add, nI_subI, nI_mulI, nI_ltI, nI_leI, nI_eq, nI_clamp, vpI, nI_maxN, nI_minN, ls_nI, half_nI, nI_addneg]
    refine ⟨fun q => by omega, fun _ => ⟨fun _ => mid, fun e => ?_⟩⟩
    have := mid
    rw [e] at this
    rw [e]
    exact this
theorem m_b249 {row start dof : Nat → Int32} {K ow cs dm : Nat → Nat} {n : Nat} {sa rk o inv : Nat → Nat} (h : LibM row start dof K ow cs dm n) (hs : SAok K (cs n) sa rk) (ho : Perm (cs n - n) o inv) (hosa : ∀ k, k < cs n - n → o k + dm (o k) = sa (n + k))
    {zd zr th sg ix : Int32} {oz wz nz sz : Nat → Int32} (hoz : ∀ k, k < cs n - n → oz k = nI (o k))
    {post : Int32 → Int32 → Int32 → Int32 → Int32 → (Nat → Int32) → (Nat → Int32) → (Nat → Int32) → (Nat → Int32) → (Nat → Int32) → Prop}
    (hp : ∀ oz' rz' sz' wz' nz', OrdM oz' rz' sz' K ow cs dm n sa rk → post (nI (cs n - n)) th sg ix (nI (cs n - n)) oz' rz' sz' wz' nz') :
    ∀ f x, x + f = cs n - n → ∀ rz, (∀ k, k < x → rz (o k) = nI k) →
      vc_MD_build_249 zd zr row start dof post (f + 1) (nI x) th sg ix (nI (cs n - n)) oz rz sz wz nz := by
  have hd := h.1
  have hm := h.2.1
  have hS := doc_S hd
  have hnN : n ≤ cs n := by
    have := doc_mono hd (show 0 ≤ n by omega) (Nat.le_refl n)
    omega
  intro f
  induction f with
  | zero =>
    intro x hx rz hrz
    rw [vc_MD_build_249]
    simp (disch := omega) only [li0, li1, li2, li3, li4, li5, li6, li7, li8, li16, li20, li24, li31, li63, li64, li65, li200, li255, li256, li320, li16384, li16448, li65535, li65536, nI_add, nI_subI, nI_mulI, nI_ltI, nI_leI, nI_eq, nI_clamp, vpI, nI_maxN, nI_minN, ls_nI, half_nI, nI_addneg]
    refine ⟨fun _ => ⟨cs n - n + 1 + 1, m_b277 h hs ho hosa hoz (fun sz' h1 h2 => hp oz rz sz' wz nz ⟨fun k hk => ?_, fun y hy => ?_, h1⟩) (cs n - n + 1) 0 (by omega) sz (fun k hk => by omega) (fun q => by omega)⟩, fun q => absurd (by omega) q⟩
    · rw [hoz k hk, ← hosa k hk]
      congr 1
      rw [(dm_at hd hm (ho.1 k hk).1).2.2.1]
      omega
    · have a := ho.2 y hy
      have b := hrz (inv y) (by omega)
      rw [a.2] at b
      have c := hosa (inv y) a.1
      rw [a.2] at c
      rw [b, c, (hs.1 _ (by omega)).2]
      congr 1
      omega
  | succ f ih =>
    intro x hx rz hrz
    have a := ho.1 x (by omega)
    rw [vc_MD_build_249]
    simp (disch := omega) only [li0, li1, li2, li3, li4, li5, li6, li7, li8, li16, li20, li24, li31, li63, li64, li65, li200, li255, li256, li320, li16384, li16448, li65535, li65536, nI_add, nI_subI, nI_mulI, nI_ltI, nI_leI, nI_eq, nI_clamp, vpI, nI_maxN, nI_minN, ls_nI, half_nI, nI_addneg, hoz]
    refine ⟨fun q => by omega, fun _ => ⟨by omega, by omega, ih (x + 1) (by omega) _ (fun k hk => ?_)⟩⟩
    by_cases e : k = x
    · rw [e, upS]
    · rw [upN (fun g => e (by rw [← (ho.1 k (by omega)).2, g, a.2]))]
      exact hrz k (by omega)
theorem m_b214 {row start dof : Nat → Int32} {K ow cs dm : Nat → Nat} {n H : Nat} {sa rk r : Nat → Nat} (h : LibM row start dof K ow cs dm n) (hs : SAok K (cs n) sa rk) (hH : cs n - n ≤ H) (hr : RI K ow cs dm n H r)
    {zd zr th sg ix : Int32} {rz wz nz sz : Nat → Int32} (hrz : ∀ x, x < cs n - n → rz x = nI (r x))
    {post : Int32 → Int32 → Int32 → Int32 → Int32 → (Nat → Int32) → (Nat → Int32) → (Nat → Int32) → (Nat → Int32) → (Nat → Int32) → Prop}
    (hp : ∀ oz' rz' sz' wz' nz', OrdM oz' rz' sz' K ow cs dm n sa rk → post (nI (cs n - n)) th sg ix (nI (cs n - n)) oz' rz' sz' wz' nz') :
    ∀ f x, x + f = cs n - n → ∀ oz, (∀ k, k < x → oz k = nI k) →
      vc_MD_build_214 zd zr row start dof post (f + 1) (nI x) th sg ix (nI (cs n - n)) oz rz sz wz nz := by
  have hd := h.1
  have hm := h.2.1
  have hS := doc_S hd
  intro f
  induction f with
  | zero =>
    intro x hx oz hoz
    rw [vc_MD_build_214]
    simp (disch := omega) only [li0, li1, li2, li3, li4, li5, li6, li7, li8, li16, li20, li24, li31, li63, li64, li65, li200, li255, li256, li320, li16384, li16448, li65535, li65536, nI_add, nI_subI, nI_mulI, nI_ltI, nI_leI, nI_eq, nI_clamp, vpI, nI_maxN, nI_minN, ls_nI, half_nI, nI_addneg]
    refine ⟨fun _ => ?_, fun q => absurd (by omega) q⟩
    have hrat : ∀ x, x < cs n - n → mkey ow cs dm r 16384 x = r x * 20000 := by
      intro x hx
      have a := dm_at hd hm hx
      have := lenf_le hd a.2.1
      unfold mkey rat
      rw [if_neg (by omega), Nat.add_zero]
    refine m_sort (S := cs n - n) (key := mkey ow cs dm r 16384) (t := fun x => x % 20000) (W := fun x => mkey ow cs dm r 16384 x * 20000 + x % 20000) hS (fun a b ha hb post hp => m_compare h hrz hr.1 (by omega) ha hb hp) ?_ ?_ 19 0 (cs n - n) (by omega) (Nat.le_refl _) (by omega) (fun k => k) oz wz (fun k hk => hoz k (by omega)) (fun k hk => hk) (fun i j _ hij hj => ?_) _ ?_
    · intro a b hab
      show _ * 20000 + _ < _ * 20000 + _
      omega
    · intro a b hab ht
      have ht' : a % 20000 < b % 20000 := ht
      show _ * 20000 + _ < _ * 20000 + _
      omega
    · show i % 20000 < j % 20000
      omega
    · rintro oz' wz' ⟨o', hoz', s'⟩
      have hlt : ∀ k, k < cs n - n → o' k < cs n - n := by
        intro k hk
        obtain ⟨m, _, m2, e⟩ := s'.2.2.1 k (by omega) hk
        rw [e]; exact m2
      obtain ⟨inv, hperm⟩ := perm_of (n := cs n - n) (f := o') hlt (fun i j hi hj e => by
        by_cases q : i < j
        · have := s'.2.1 i j (by omega) q hj
          rw [e] at this; omega
        · by_cases q2 : j < i
          · have := s'.2.1 j i (by omega) q2 hi
            rw [e] at this; omega
          · omega)
      have hso : ∀ i j, i < j → j < cs n - n → r (o' i) < r (o' j) ∨ (r (o' i) = r (o' j) ∧ o' i < o' j) := by
        intro i j hij hj
        have a := s'.2.1 i j (by omega) hij hj
        have b := hlt i (by omega)
        have c := hlt j hj
        simp only [hrat _ b, hrat _ c] at a
        omega
      exact ⟨cs n - n + 1, m_b249 h hs hperm (ord_enum hd hm hs hH hr hperm hso) hoz' hp (cs n - n) 0 (by omega) rz (fun k hk => by omega)⟩
  | succ f ih =>
    intro x hx oz hoz
    rw [vc_MD_build_214]
    simp (disch := omega) only [li0, li1, li2, li3, li4, li5, li6, li7, li8, li16, li20, li24, li31, li63, li64, li65, li200, li255, li256, li320, li16384, li16448, li65535, li65536, nI_add, nI_subI, nI_mulI, nI_ltI, nI_leI, nI_eq, nI_clamp, vpI, nI_maxN, nI_minN, ls_nI, half_nI, nI_addneg]
    refine ⟨fun q => by omega, fun _ => ⟨by omega, ih (x + 1) (by omega) _ (fun k hk => ?_)⟩⟩
    by_cases e : k = x
    · rw [e, upS]
    · rw [upN e]; exact hoz k (by omega)
/-- ranks anew: next from the sorted order, then back -/
def dfm (ow cs dm r o : Nat → Nat) (h j : Nat) : Bool := decide (mkey ow cs dm r h (o j) ≠ mkey ow cs dm r h (o (j + 1)))
theorem m_b162 {row start dof : Nat → Int32} {S h : Nat} {zd zr th sg ix : Int32} {oz wz nz sz : Nat → Int32} {g : Nat → Nat} (hS : S ≤ 16384) (hh : h < 100000) (hnz : ∀ x, x < S → nz x = nI (g x))
    {post : Int32 → Int32 → Int32 → Int32 → Int32 → (Nat → Int32) → (Nat → Int32) → (Nat → Int32) → (Nat → Int32) → (Nat → Int32) → Prop}
    {K80 : Int32 → Int32 → Int32 → Int32 → Int32 → Int32 → (Nat → Int32) → (Nat → Int32) → (Nat → Int32) → (Nat → Int32) → (Nat → Int32) → Prop}
    (hp : ∀ rz', (∀ x, x < S → rz' x = nI (g x)) → K80 (nI (if h < S then 1 else 0)) (nI (h + h)) th sg ix (nI S) oz rz' sz wz nz) :
    ∀ f x, x + f = S → ∀ rz, (∀ y, y < x → rz y = nI (g y)) → vc_MD_build_162 zd zr row start dof post K80 (f + 1) (nI h) (nI x) th sg ix (nI S) oz rz sz wz nz := by
  intro f
  induction f with
  | zero =>
    intro x hx rz hrz
    rw [vc_MD_build_162]
    unfold vc_MD_build_204
    simp (disch := omega) only [li0, li1, li2, li3, li4, li5, li6, li7, li8, li16, li20, li24, li31, li63, li64, li65, li200, li255, li256, li320, li16384, li16448, li65535, li65536, nI_add, nI_subI, nI_mulI, nI_ltI, nI_leI, nI_eq, nI_clamp, vpI, nI_maxN, nI_minN, ls_nI, half_nI, nI_addneg, Nat.mul_two]
    have := hp rz (fun y hy => hrz y (by omega))
    refine ⟨fun _ => ⟨fun q => ?_, fun q => ?_⟩, fun q => absurd (by omega) q⟩
    · rw [if_neg (by omega)] at this; exact this
    · rw [if_pos (by omega)] at this; exact this
  | succ f ih =>
    intro x hx rz hrz
    rw [vc_MD_build_162]
    simp (disch := omega) only [li0, li1, li2, li3, li4, li5, li6, li7, li8, li16, li20, li24, li31, li63, li64, li65, li200, li255, li256, li320, li16384, li16448, li65535, li65536, nI_add, nI_subI, nI_mulI, nI_ltI, nI_leI, nI_eq, nI_clamp, vpI, nI_maxN, nI_minN, ls_nI, half_nI, nI_addneg, hnz]
    refine ⟨fun q => by omega, fun _ => ⟨by omega, by omega, ih (x + 1) (by omega) _ (fun k hk => ?_)⟩⟩
    by_cases e : k = x
    · rw [e, upS]
    · rw [upN e]; exact hrz k (by omega)
theorem m_b99 {row start dof : Nat → Int32} {K ow cs dm : Nat → Nat} {n h : Nat} {r o inv : Nat → Nat} (hl : LibM row start dof K ow cs dm n) (hh : h < 100000) (hr : ∀ x, x < cs n - n → r x < 19000) (ho : Perm (cs n - n) o inv)
    {zd zr th sg ix : Int32} {oz rz wz sz : Nat → Int32} (hoz : ∀ k, k < cs n - n → oz k = nI (o k)) (hrz : ∀ x, x < cs n - n → rz x = nI (r x))
    {post : Int32 → Int32 → Int32 → Int32 → Int32 → (Nat → Int32) → (Nat → Int32) → (Nat → Int32) → (Nat → Int32) → (Nat → Int32) → Prop}
    {K80 : Int32 → Int32 → Int32 → Int32 → Int32 → Int32 → (Nat → Int32) → (Nat → Int32) → (Nat → Int32) → (Nat → Int32) → (Nat → Int32) → Prop}
    (hp : ∀ rz' nz', (∀ x, x < cs n - n → rz' x = nI (cnt (dfm ow cs dm r o h) (inv x))) → K80 (nI (if h < cs n - n then 1 else 0)) (nI (h + h)) th sg ix (nI (cs n - n)) oz rz' sz wz nz') :
    ∀ f x, x + f = cs n - n → ∀ nz, (∀ k, k < x → nz (o k) = nI (cnt (dfm ow cs dm r o h) k)) →
      vc_MD_build_99 zd zr row start dof post K80 (f + 1) (nI h) (nI (cnt (dfm ow cs dm r o h) (x - 1))) (nI x) th sg ix (nI (cs n - n)) oz rz sz wz nz := by
  have hS := doc_S hl.1
  intro f
  induction f with
  | zero =>
    intro x hx nz hnz
    rw [vc_MD_build_99]
    simp (disch := omega) only [li0, li1, li2, li3, li4, li5, li6, li7, li8, li16, li20, li24, li31, li63, li64, li65, li200, li255, li256, li320, li16384, li16448, li65535, li65536, nI_add, nI_subI, nI_mulI, nI_ltI, nI_leI, nI_eq, nI_clamp, vpI, nI_maxN, nI_minN, ls_nI, half_nI, nI_addneg]
    refine ⟨fun _ => ⟨cs n - n + 1, m_b162 (g := fun x => cnt (dfm ow cs dm r o h) (inv x)) hS hh (fun y hy => ?_) (fun rz' h1 => hp rz' nz h1) (cs n - n) 0 (by omega) rz (fun y hy => by omega)⟩, fun q => absurd (by omega) q⟩
    have a := ho.2 y hy
    have b := hnz (inv y) (by omega)
    rw [a.2] at b
    exact b
  | succ f ih =>
    intro x hx nz hnz
    have a := ho.1 x (by omega)
    have hc := cnt_le (dfm ow cs dm r o h) (x - 1)
    have fin : ∀ v, v = cnt (dfm ow cs dm r o h) x → vc_MD_build_140 zd zr row start dof post (fun x2' x3' x4' z_thrown' z_soughtSize' z_indexed' z_suffixes' z_order' z_rankOf' z_same' z_work' z_next' => vc_MD_build_99 zd zr row start dof post K80 (f + 1) x2' x3' x4' z_thrown' z_soughtSize' z_indexed' z_suffixes' z_order' z_rankOf' z_same' z_work' z_next') (nI h) (nI v) (nI x) th sg ix (nI (cs n - n)) oz rz sz wz nz := by
      intro v hv
      unfold vc_MD_build_140
      simp (disch := omega) only [li0, li1, li2, li3, li4, li5, li6, li7, li8, li16, li20, li24, li31, li63, li64, li65, li200, li255, li256, li320, li16384, li16448, li65535, li65536, nI_add, nI_subI, nI_mulI, nI_ltI, nI_leI, nI_eq, nI_clamp, vpI, nI_maxN, nI_minN, ls_nI, half_nI, nI_addneg, hoz]
      refine ⟨by omega, by omega, ?_⟩
      have := ih (x + 1) (by omega) (upd nz (o x) (nI v)) (fun k hk => ?_)
      · rw [Nat.add_sub_cancel, ← hv] at this
        exact this
      · by_cases e : k = x
        · rw [e, upS, hv]
        · rw [upN (fun g => e (by rw [← (ho.1 k (by omega)).2, g, a.2]))]
          exact hnz k (by omega)
    rw [vc_MD_build_99]
    simp (disch := omega) only [li0, li1, li2, li3, li4, li5, li6, li7, li8, li16, li20, li24, li31, li63, li64, li65, li200, li255, li256, li320, li16384, li16448, li65535, li65536, nI_add, nI_subI, nI_mulI, nI_ltI, nI_leI, nI_eq, nI_clamp, vpI, nI_maxN, nI_minN, ls_nI, half_nI, nI_addneg]
    refine ⟨fun q => by omega, fun _ => ⟨fun q => ?_, fun q => ?_⟩⟩
    · refine fin _ ?_
      rw [show x - 1 = 0 by omega, show x = 0 by omega]
    · have b := ho.1 (x - 1) (by omega)
      have e1 : x - 1 + 1 = x := by omega
      have hd : cnt (dfm ow cs dm r o h) x = cnt (dfm ow cs dm r o h) (x - 1) + (if dfm ow cs dm r o h (x - 1) then 1 else 0) := by
        have : cnt (dfm ow cs dm r o h) (x - 1 + 1) = cnt (dfm ow cs dm r o h) (x - 1) + (if dfm ow cs dm r o h (x - 1) then 1 else 0) := rfl
        rwa [e1] at this
      have hdf : dfm ow cs dm r o h (x - 1) = decide (mkey ow cs dm r h (o (x - 1)) ≠ mkey ow cs dm r h (o x)) := by
        unfold dfm; rw [e1]
      simp (disch := omega) only [li0, li1, li2, li3, li4, li5, li6, li7, li8, li16, li20, li24, li31, li63, li64, li65, li200, li255, li256, li320, li16384, li16448, li65535, li65536, nI_add, nI_subI, nI_mulI, nI_ltI, nI_leI, nI_eq, nI_clamp, vpI, nI_maxN, nI_minN, ls_nI, half_nI, nI_addneg, hoz]
      refine ⟨by omega, by omega, m_compare hl hrz hr hh b.1 a.1 (fun v _ v2 => ⟨fun g => ?_, fun g => ?_⟩)⟩
      · refine fin _ ?_
        rw [hd, hdf, if_neg (by simp; exact v2.mp g)]
        rfl
      · refine fin _ ?_
        rw [hd, hdf, if_pos (by simp; exact fun e => g (v2.mpr e))]
theorem m_b80 {row start dof : Nat → Int32} {K ow cs dm : Nat → Nat} {n : Nat} {sa rk : Nat → Nat} (hl : LibM row start dof K ow cs dm n) (hs : SAok K (cs n) sa rk)
    {zd zr th sg ix : Int32} {sz : Nat → Int32}
    {post : Int32 → Int32 → Int32 → Int32 → Int32 → (Nat → Int32) → (Nat → Int32) → (Nat → Int32) → (Nat → Int32) → (Nat → Int32) → Prop}
    (hp : ∀ oz' rz' sz' wz' nz', OrdM oz' rz' sz' K ow cs dm n sa rk → post (nI (cs n - n)) th sg ix (nI (cs n - n)) oz' rz' sz' wz' nz') :
    ∀ f h fl, 1 ≤ h → h < 70000 → (fl = 0 → cs n - n ≤ h) → (fl = 1 → h < 2 * (cs n - n) ∧ 2 * (cs n - n) ≤ h + f) → fl ≤ 1 → ∀ oz rz wz nz o inv r, Perm (cs n - n) o inv → (∀ k, k < cs n - n → oz k = nI (o k)) → RI K ow cs dm n h r → (∀ x, x < cs n - n → rz x = nI (r x)) →
      vc_MD_build_80 zd zr row start dof post (f + 1) (nI fl) (nI h) th sg ix (nI (cs n - n)) oz rz sz wz nz := by
  have hd := hl.1
  have hm := hl.2.1
  have hS := doc_S hd
  intro f
  induction f with
  | zero =>
    intro h fl h1 h4 hf0 hf1 hfl oz rz wz nz o inv r ho hoz hr hrz
    rw [vc_MD_build_80]
    simp (disch := omega) only [li0, li1, li2, li3, li4, li5, li6, li7, li8, li16, li20, li24, li31, li63, li64, li65, li200, li255, li256, li320, li16384, li16448, li65535, li65536, nI_add, nI_subI, nI_mulI, nI_ltI, nI_leI, nI_eq, nI_clamp, vpI, nI_maxN, nI_minN, ls_nI, half_nI, nI_addneg]
    refine ⟨fun q => ⟨cs n - n + 1, m_b214 hl hs (hf0 q) hr hrz hp (cs n - n) 0 (by omega) oz (fun k hk => by omega)⟩, fun q => ?_⟩
    have := hf1 (by omega)
    omega
  | succ f ih =>
    intro h fl h1 h4 hf0 hf1 hfl oz rz wz nz o inv r ho hoz hr hrz
    rw [vc_MD_build_80]
    simp (disch := omega) only [li0, li1, li2, li3, li4, li5, li6, li7, li8, li16, li20, li24, li31, li63, li64, li65, li200, li255, li256, li320, li16384, li16448, li65535, li65536, nI_add, nI_subI, nI_mulI, nI_ltI, nI_leI, nI_eq, nI_clamp, vpI, nI_maxN, nI_minN, ls_nI, half_nI, nI_addneg]
    refine ⟨fun q => ⟨cs n - n + 1, m_b214 hl hs (hf0 q) hr hrz hp (cs n - n) 0 (by omega) oz (fun k hk => by omega)⟩, fun q => ?_⟩
    have hf := hf1 (by omega)
    refine m_sort (S := cs n - n) (key := mkey ow cs dm r h) (t := fun x => inv x % 20000) (W := fun x => mkey ow cs dm r h x * 20000 + inv x % 20000) hS (fun a b ha hb post hp => m_compare hl hrz hr.1 (by omega) ha hb hp) ?_ ?_ 19 0 (cs n - n) (by omega) (Nat.le_refl _) (by omega) o oz wz hoz (fun k hk => (ho.1 k hk).1) (fun i j _ hij hj => ?_) _ ?_
    · intro a b hab
      show _ * 20000 + _ < _ * 20000 + _
      omega
    · intro a b hab ht
      have ht' : inv a % 20000 < inv b % 20000 := ht
      show _ * 20000 + _ < _ * 20000 + _
      omega
    · show inv (o i) % 20000 < inv (o j) % 20000
      rw [(ho.1 i (by omega)).2, (ho.1 j hj).2]
      omega
    · rintro oz' wz' ⟨o', hoz', s'⟩
      have hlt : ∀ k, k < cs n - n → o' k < cs n - n := by
        intro k hk
        obtain ⟨m, _, m2, e⟩ := s'.2.2.1 k (by omega) hk
        rw [e]; exact (ho.1 m m2).1
      obtain ⟨inv', hperm⟩ := perm_of (n := cs n - n) (f := o') hlt (fun i j hi hj e => by
        by_cases q : i < j
        · have := s'.2.1 i j (by omega) q hj
          rw [e] at this; omega
        · by_cases q2 : j < i
          · have := s'.2.1 j i (by omega) q2 hi
            rw [e] at this; omega
          · omega)
      have hkey : ∀ i j, i < j → j < cs n - n → mkey ow cs dm r h (o' i) ≤ mkey ow cs dm r h (o' j) := by
        intro i j hij hj
        have a : mkey ow cs dm r h (o' i) * 20000 + inv (o' i) % 20000 < mkey ow cs dm r h (o' j) * 20000 + inv (o' j) % 20000 := s'.2.1 i j (by omega) hij hj
        omega
      have hRI : RI K ow cs dm n (h + h) (fun x => cnt (dfm ow cs dm r o' h) (inv' x)) := by
        refine ⟨fun x hx => ?_, fun x y hx hy => ?_⟩
        · have := cnt_le (dfm ow cs dm r o' h) (inv' x)
          have := (hperm.2 x hx).1
          show cnt _ _ < _
          omega
        · have a := hperm.2 x hx
          have b := hperm.2 y hy
          have c := cnt_riseLt (g := fun i => mkey ow cs dm r h (o' i)) (D := dfm ow cs dm r o' h) hkey (fun j hj => by unfold dfm; simp) a.1 b.1
          show cnt (dfm ow cs dm r o' h) (inv' x) < cnt (dfm ow cs dm r o' h) (inv' y) ↔ _
          rw [c, ← mkey_cod hd hm h1 hr hx hy]
          simp only [a.2, b.2]
      refine ⟨cs n - n + 1, ?_⟩
      have := m_b99 (zd := zd) (zr := zr) (th := th) (sg := sg) (ix := ix) (sz := sz) (wz := wz') (post := post) (K80 := fun x1' x2' z_thrown' z_soughtSize' z_indexed' z_suffixes' z_order' z_rankOf' z_same' z_work' z_next' => vc_MD_build_80 zd zr row start dof post (f + 1) x1' x2' z_thrown' z_soughtSize' z_indexed' z_suffixes' z_order' z_rankOf' z_same' z_work' z_next') hl (show h < 100000 by omega) hr.1 hperm hoz' hrz ?_ (cs n - n) 0 (by omega) nz (fun k hk => by omega)
      · exact this
      · intro rz' nz' hrz'
        refine ih (h + h) (if h < cs n - n then 1 else 0) (by omega) (by omega) (fun e => ?_) (fun e => ?_) (by split <;> omega) _ _ _ _ o' inv' _ hperm hoz' hRI hrz'
        · by_cases g : h < cs n - n
          · rw [if_pos g] at e; omega
          · omega
        · by_cases g : h < cs n - n
          · omega
          · rw [if_neg g] at e; omega
theorem m_build {row start dof : Nat → Int32} {K ow cs dm : Nat → Nat} {n : Nat} {sa rk : Nat → Nat} (hl : LibM row start dof K ow cs dm n) (hs : SAok K (cs n) sa rk)
    {th sg ix sf : Int32} {oz rz sz wz nz : Nat → Int32}
    {post : Int32 → Int32 → Int32 → Int32 → Int32 → (Nat → Int32) → (Nat → Int32) → (Nat → Int32) → (Nat → Int32) → (Nat → Int32) → Prop}
    (hp : ∀ oz' rz' sz' wz' nz', OrdM oz' rz' sz' K ow cs dm n sa rk → post (nI (cs n - n)) 0 0 (nI n) (nI (cs n - n)) oz' rz' sz' wz' nz') :
    vc_MD_build (nI n) (nI (cs n - n)) row start dof post th sg ix sf oz rz sz wz nz := by
  have hd := hl.1
  have hm := hl.2.1
  have hS := doc_S hd
  have hrow := hl.2.2.1
  have key : ∀ f x, x + f = cs n - n → ∀ oz rz, (∀ k, k < x → oz k = nI k) → (∀ k, k < x → rz k = nI (K (k + dm k) - 64)) →
      vc_MD_build_28 (nI n) (nI (cs n - n)) row start dof post (f + 1) (nI x) 0 0 (nI n) (nI (cs n - n)) oz rz sz wz nz := by
    intro f
    induction f with
    | zero =>
      intro x hx oz rz hoz hrz
      have hRI : RI K ow cs dm n 1 (fun x => K (x + dm x) - 64) := by
        refine ⟨fun x hx => ?_, fun x y hx hy => ?_⟩
        · have := dm_at hd hm hx
          show K (x + dm x) - 64 < 19000
          omega
        · have a := dm_at hd hm hx
          have b := dm_at hd hm hy
          rw [cod1, cod1]
          unfold smx
          rw [if_pos (by omega), if_pos (by omega)]
          simp only [Nat.add_zero]
          show K (x + dm x) - 64 < K (y + dm y) - 64 ↔ _
          omega
      have e : x = cs n - n := by omega
      subst e
      have fin : ∀ fl, (fl = 0 → cs n - n = 0) → (fl = 1 → 0 < cs n - n) → fl ≤ 1 → vc_MD_build_77 (nI n) (nI (cs n - n)) row start dof post (nI fl) 0 0 (nI n) (nI (cs n - n)) oz rz sz wz nz := by
        intro fl f0 f1 f2
        unfold vc_MD_build_77
        refine ⟨2 * (cs n - n) + 1, m_b80 hl hs hp (2 * (cs n - n)) 1 fl (by omega) (by omega) (fun e => ?_) (fun e => ?_) f2 oz rz wz nz (fun k => k) (fun k => k) _ ⟨fun k hk => ⟨hk, rfl⟩, fun k hk => ⟨hk, rfl⟩⟩ hoz hRI hrz⟩
        · have := f0 e; omega
        · have := f1 e; omega
      rw [vc_MD_build_28]
      rw [nI_leI (by omega) (by omega), li0]
      simp (disch := omega) only [nI_leI]
      refine ⟨fun _ => ⟨fun q => fin 0 (fun _ => by omega) (fun e => by omega) (by omega), fun q => fin 1 (fun e => by omega) (fun e => by omega) (by omega)⟩, fun q => absurd (Nat.le_refl _) q⟩
    | succ f ih =>
      intro x hx oz rz hoz hrz
      have a := dm_at hd hm (show x < cs n - n by omega)
      rw [vc_MD_build_28]
      rw [nI_leI (by omega) (by omega)]
      refine ⟨fun q => by omega, fun _ => ⟨(vpI (by omega)).mpr (by omega), (vpI (by omega)).mpr (by omega), (vpI (by omega)).mpr (by omega), ?_⟩⟩
      rw [nI_clamp (by omega), hrow x (by omega), li255, bs_and a.2.2.2.1 a.2.2.2.2.1, tx_byte a.2.2.2.1, li1, nI_add]
      refine ih (x + 1) (by omega) _ _ (fun k hk => ?_) (fun k hk => ?_)
      · by_cases e : k = x
        · rw [e, upS]
        · rw [upN e]; exact hoz k (by omega)
      · by_cases e : k = x
        · rw [e, upS]
        · rw [upN e]; exact hrz k (by omega)
  exact ⟨cs n - n + 1, key (cs n - n) 0 (by omega) oz rz (fun k hk => by omega) (fun k hk => by omega)⟩
