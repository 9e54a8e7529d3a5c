/-! windows: by number, by documents; the reference's repeat and shared -/
def hnum (a b : Nat) : Nat := b - a
theorem Held_num : Held hnum := by
  exact ⟨fun a => by unfold hnum; omega, fun a b h => by unfold hnum; omega, fun a b h => by unfold hnum; omega⟩
def insd (D : Nat → Nat) (a b d : Nat) : Nat := cnt (fun r => decide (D r = d)) b - cnt (fun r => decide (D r = d)) a
def hdoc (D : Nat → Nat) (a b : Nat) : Nat := cnt (fun d => decide (0 < insd D a b d)) 64
theorem insd_r (D : Nat → Nat) {a b : Nat} (h : a ≤ b) (d : Nat) : insd D a (b + 1) d = insd D a b d + (if D b = d then 1 else 0) := by
  unfold insd
  have m := cnt_step (fun r => decide (D r = d)) h
  show cnt (fun r => decide (D r = d)) b + (if decide (D b = d) = true then 1 else 0) - _ = _
  simp only [decide_eq_true_eq]
  split <;> omega
theorem insd_l (D : Nat → Nat) {a b : Nat} (h : a < b) (d : Nat) : insd D a b d = insd D (a + 1) b d + (if D a = d then 1 else 0) := by
  unfold insd
  have m := cnt_step (fun r => decide (D r = d)) (show a + 1 ≤ b by omega)
  have e : cnt (fun r => decide (D r = d)) (a + 1) = cnt (fun r => decide (D r = d)) a + (if D a = d then 1 else 0) := by
    show cnt (fun r => decide (D r = d)) a + (if decide (D a = d) = true then 1 else 0) = _
    simp only [decide_eq_true_eq]
  rw [e] at m ⊢
  split <;> split at m <;> omega
theorem hdoc_add {D : Nat → Nat} {f g : Nat → Nat} {q : Nat} (hfg : ∀ d, g d = f d + (if q = d then 1 else 0)) :
    cnt (fun d => decide (0 < g d)) 64 = cnt (fun d => decide (0 < f d)) 64 + (if q < 64 ∧ f q = 0 then 1 else 0) := by
  by_cases h : q < 64 ∧ f q = 0
  · rw [if_pos h]
    refine cnt_one h.1 (by simp [hfg]) (by simp [h.2]) (fun j _ hj => ?_)
    rw [hfg j, if_neg (Ne.symm hj), Nat.add_zero]
  · rw [if_neg h, Nat.add_zero]
    refine cnt_congr (fun j hj => ?_)
    rw [hfg j]
    by_cases e : q = j
    · rw [if_pos e]
      congr 1
      apply propext
      rw [e] at h
      omega
    · rw [if_neg e, Nat.add_zero]
theorem hdoc_r (D : Nat → Nat) {a b : Nat} (h : a ≤ b) : hdoc D a (b + 1) = hdoc D a b + (if D b < 64 ∧ insd D a b (D b) = 0 then 1 else 0) := hdoc_add (D := D) (insd_r D h)
theorem hdoc_l (D : Nat → Nat) {a b : Nat} (h : a < b) : hdoc D a b = hdoc D (a + 1) b + (if D a < 64 ∧ insd D (a + 1) b (D a) = 0 then 1 else 0) := hdoc_add (D := D) (insd_l D h)
theorem Held_doc (D : Nat → Nat) : Held (hdoc D) := by
  refine ⟨fun a => ?_, fun a b h => ?_, fun a b h => ?_⟩
  · refine cnt_none (fun j _ => ?_)
    unfold insd
    simp
  · rw [hdoc_r D h]; split <;> omega
  · rw [hdoc_l D h]; split <;> omega
theorem insd_le (D : Nat → Nat) (a b d : Nat) : insd D a b d ≤ b := by
  have := cnt_le (fun r => decide (D r = d)) b
  unfold insd; omega
theorem w_enter {owz soz z : Nat → Int32} {ow sa : Nat → Nat} {N a b : Nat} (hN : N ≤ 16448) (hso : ∀ k, k < N → soz k = nI (sa k)) (hsa : ∀ k, k < N → sa k < N) (how : ∀ p, p < N → owz p = nI (ow p)) (h64 : ∀ p, p < N → ow p < 64) (hab : a ≤ b) (hb : b < N)
    (hz : ∀ d, d < 64 → z d = nI (insd (fun r => ow (sa r)) a b d)) {post : Int32 → (Nat → Int32) → Prop}
    (hp : ∀ z', (∀ d, d < 64 → z' d = nI (insd (fun r => ow (sa r)) a (b + 1) d)) → post (nI (hdoc (fun r => ow (sa r)) a (b + 1) - hdoc (fun r => ow (sa r)) a b)) z') : vc_WI_enter (nI b) (nI 1) owz soz post z := by
  have h1 := hsa b hb
  have h2 := h64 _ h1
  have h3 := insd_le (fun r => ow (sa r)) a b (ow (sa b))
  have e := hdoc_r (fun r => ow (sa r)) hab
  unfold vc_WI_enter
  rw [nI_clamp (by omega), hso b hb, nI_clamp (by omega), how _ h1, nI_clamp (by omega), hz _ h2, nI_1, upS]
  refine ⟨fun _ => ⟨(vpI (by omega)).mpr (by omega), (vpI (by omega)).mpr (by omega), (vpI (by omega)).mpr (by omega), (vpI (by omega)).mpr (by omega), (vpI (by omega)).mpr (by omega), ?_⟩, fun g => absurd g (by decide)⟩
  have hz' : ∀ d, d < 64 → upd z (ow (sa b)) (nI (insd (fun r => ow (sa r)) a b (ow (sa b)) + 1)) d = nI (insd (fun r => ow (sa r)) a (b + 1) d) := by
    intro d hd
    rw [insd_r _ hab]
    by_cases g : d = ow (sa b)
    · rw [g, upS, if_pos rfl]
    · rw [upN g, if_neg (Ne.symm g), hz d hd, Nat.add_zero]
  have := hp _ hz'
  rw [e] at this
  rw [li1, nI_eq (by omega) (by omega)]
  refine ⟨fun g => ?_, fun g => ?_⟩
  · rw [if_neg (fun c => by have c2 : insd (fun r => ow (sa r)) a b (ow (sa b)) = 0 := c.2; omega), Nat.add_zero, Nat.sub_self] at this
    exact this
  · rw [if_pos ⟨h2, show insd (fun r => ow (sa r)) a b (ow (sa b)) = 0 by omega⟩, Nat.add_sub_cancel_left] at this
    exact this
theorem w_leave {owz soz z : Nat → Int32} {ow sa : Nat → Nat} {N a b : Nat} (hN : N ≤ 16448) (hso : ∀ k, k < N → soz k = nI (sa k)) (hsa : ∀ k, k < N → sa k < N) (how : ∀ p, p < N → owz p = nI (ow p)) (h64 : ∀ p, p < N → ow p < 64) (hab : a < b) (hb : b ≤ N)
    (hz : ∀ d, d < 64 → z d = nI (insd (fun r => ow (sa r)) a b d)) {post : Int32 → (Nat → Int32) → Prop}
    (hp : ∀ z', (∀ d, d < 64 → z' d = nI (insd (fun r => ow (sa r)) (a + 1) b d)) → post (nI (hdoc (fun r => ow (sa r)) a b - hdoc (fun r => ow (sa r)) (a + 1) b)) z') : vc_WI_leave (nI a) (nI 1) owz soz post z := by
  have h1 := hsa a (by omega)
  have h2 := h64 _ h1
  have h3 := insd_le (fun r => ow (sa r)) a b (ow (sa a))
  have e := hdoc_l (fun r => ow (sa r)) hab
  have i1 : insd (fun r => ow (sa r)) a b (ow (sa a)) = insd (fun r => ow (sa r)) (a + 1) b (ow (sa a)) + 1 := by
    rw [insd_l _ hab, if_pos rfl]
  have hs : nI (insd (fun r => ow (sa r)) a b (ow (sa a))) - 1 = nI (insd (fun r => ow (sa r)) (a + 1) b (ow (sa a))) := by
    rw [i1]; exact nI_pred _
  unfold vc_WI_leave
  rw [nI_clamp (by omega), hso a (by omega), nI_clamp (by omega), how _ h1, nI_clamp (by omega), hz _ h2, hs, upS]
  refine ⟨fun _ => ⟨(vpI (by omega)).mpr (by omega), (vpI (by omega)).mpr (by omega), (vpI (by omega)).mpr (by omega), (vpI (by omega)).mpr (by omega), (vpI (by omega)).mpr (by omega), ?_⟩, fun g => absurd g (by decide)⟩
  have hz' : ∀ d, d < 64 → upd z (ow (sa a)) (nI (insd (fun r => ow (sa r)) (a + 1) b (ow (sa a)))) d = nI (insd (fun r => ow (sa r)) (a + 1) b d) := by
    intro d hd
    by_cases g : d = ow (sa a)
    · rw [g, upS]
    · rw [upN g, hz d hd, insd_l _ hab, if_neg (Ne.symm g), Nat.add_zero]
  have := hp _ hz'
  rw [e] at this
  rw [li0, nI_eq (by omega) (by omega)]
  refine ⟨fun g => ?_, fun g => ?_⟩
  · rw [if_neg (fun c => g c.2), Nat.add_zero, Nat.sub_self] at this
    exact this
  · rw [if_pos ⟨h2, g⟩, Nat.add_sub_cancel_left] at this
    exact this
theorem LL_lt {K ow cs : Nat → Nat} {n r : Nat} {sa rk : Nat → Nat} (h : DocOk K ow cs n) (hs : SAok K (cs n) sa rk) (hr : r < cs n) : LL K (cs n) sa r < 16448 := by
  have a := LL_len h hs hr
  have b := lenf_le h (hs.1 r hr).1
  omega
/-- the best, as the class tells it -/
theorem s_slideNum {abz soz owz : Nat → Int32} {K ow cs sa rk : Nat → Nat} {n m : Nat} (hd : DocOk K ow cs n) (hs : SAok K (cs n) sa rk) (habz : ∀ r, r < cs n → abz r = nI (LL K (cs n) sa r)) (hso : ∀ k, k < cs n → soz k = nI (sa k)) (hm : 2 ≤ m) (hmb : m ≤ 1000)
    {post : Int32 → Int32 → Int32 → Int32 → (Nat → Int32) → (Nat → Int32) → Prop} {b0 b1 b2 b3 : Int32} {in0 z0 : Nat → Int32}
    (hp : ∀ bpz f t ins z, (bpz = if bl (Cg hnum (LL K (cs n) sa) n (cs n) m) (cs n - n) = 0 then -nI 1 else nI (sa (n + bp (Cg hnum (LL K (cs n) sa) n (cs n) m) (cs n - n)))) → post bpz (nI (bl (Cg hnum (LL K (cs n) sa) n (cs n) m) (cs n - n))) f t ins z) :
    vc_WI_slide (nI m) 0 owz (nI n) (nI (cs n)) soz abz post b0 b1 b2 b3 in0 z0 := by
  have hnN : n ≤ cs n := by
    have := doc_mono hd (show 0 ≤ n by omega) (Nat.le_refl n)
    omega
  refine s_slide (Ins := fun _ _ _ => True) (doc_N hd) hnN hm hmb habz (fun r hr => by have := LL_lt hd hs hr; omega) hso Held_num (fun _ _ => trivial) (fun a b z _ hab _ _ post hp => ?_) (fun a b z _ hab _ _ post hp => ?_) hp
  · unfold vc_WI_enter
    have := hp z trivial
    unfold hnum at this
    rw [show b + 1 - a - (b - a) = 1 by omega] at this
    exact ⟨fun g => absurd rfl g, fun _ => this⟩
  · unfold vc_WI_leave
    have := hp z trivial
    unfold hnum at this
    rw [show b - a - (b - (a + 1)) = 1 by omega] at this
    exact ⟨fun g => absurd rfl g, fun _ => this⟩
theorem s_slideDoc {abz soz owz : Nat → Int32} {K ow cs sa rk : Nat → Nat} {n m : Nat} (hd : DocOk K ow cs n) (hs : SAok K (cs n) sa rk) (how : ∀ p, p < cs n → owz p = nI (ow p)) (habz : ∀ r, r < cs n → abz r = nI (LL K (cs n) sa r)) (hso : ∀ k, k < cs n → soz k = nI (sa k)) (hm : 2 ≤ m) (hmb : m ≤ 1000)
    {post : Int32 → Int32 → Int32 → Int32 → (Nat → Int32) → (Nat → Int32) → Prop} {b0 b1 b2 b3 : Int32} {in0 z0 : Nat → Int32}
    (hp : ∀ bpz f t ins z, (bpz = if bl (Cg (hdoc (fun r => ow (sa r))) (LL K (cs n) sa) n (cs n) m) (cs n - n) = 0 then -nI 1 else nI (sa (n + bp (Cg (hdoc (fun r => ow (sa r))) (LL K (cs n) sa) n (cs n) m) (cs n - n)))) → post bpz (nI (bl (Cg (hdoc (fun r => ow (sa r))) (LL K (cs n) sa) n (cs n) m) (cs n - n))) f t ins z) :
    vc_WI_slide (nI m) 1 owz (nI n) (nI (cs n)) soz abz post b0 b1 b2 b3 in0 z0 := by
  have hnN : n ≤ cs n := by
    have := doc_mono hd (show 0 ≤ n by omega) (Nat.le_refl n)
    omega
  have h64 : ∀ p, p < cs n → ow p < 64 := fun p hp => by
    have := (doc_at hd hp).1
    have := hd.2.2.2.1
    omega
  refine s_slide (Ins := fun a b z => ∀ d, d < 64 → z d = nI (insd (fun r => ow (sa r)) a b d)) (doc_N hd) hnN hm hmb habz (fun r hr => by have := LL_lt hd hs hr; omega) hso (Held_doc _) (fun z hz d hd => ?_)
    (fun a b z _ hab hb hz post hp => w_enter (doc_N hd) hso (fun k hk => (hs.1 k hk).1) how h64 hab hb hz hp) (fun a b z _ hab hb hz post hp => w_leave (doc_N hd) hso (fun k hk => (hs.1 k hk).1) how h64 hab hb hz hp) hp
  rw [hz d hd]
  unfold insd
  rw [Nat.sub_self]
/-- the reference tells the best -/
theorem m_best {row start dof : Nat → Int32} {K ow cs dm sa rk : Nat → Nat} {n : Nat} (h : LibM row start dof K ow cs dm n) (hs : SAok K (cs n) sa rk) {C : Nat → Nat} (hC : ∀ i, 0 < C i → n + i + 1 < cs n ∧ C i ≤ LL K (cs n) sa (n + i + 1)) {k : Nat} {at_ : Int32}
    (hat : at_ = if bl C k = 0 then nI 0 else nI (sa (n + bp C k) - ow (sa (n + bp C k)))) {on : Int32} {oz : Nat → Int32}
    {post : Int32 → (Nat → Int32) → Prop} (hp : ∀ oz', (∀ i, i < bl C k → oz' i = bs (K (sa (n + bp C k) + i))) → post (nI (bl C k)) oz') : vc_MD_tell at_ (nI (bl C k)) row post on oz := by
  have hd := h.1
  by_cases q : bl C k = 0
  · rw [q] at hp ⊢
    exact m_tell0 (hp oz (fun i hi => by omega))
  · rw [if_neg q] at hat
    have a := bl_at (C := C) k (by omega)
    have b := hC (bp C k) (by omega)
    have s1 := hs.1 (n + bp C k) (by omega)
    have s2 := hs.1 (n + bp C k + 1) b.1
    have mk := SA_mark_iff hd hs (show n + bp C k < cs n by omega)
    have e := dm_of hd h.2.1 s1.1 (by omega)
    have hl := (lcp_len hd s1.1 s2.1 (fun g => by have := SA_inj hs (by omega) b.1 g; omega)).1
    rw [← LL_succ] at hl
    rw [hat]
    have e2 : sa (n + bp C k) - ow (sa (n + bp C k)) + dm (sa (n + bp C k) - ow (sa (n + bp C k))) = sa (n + bp C k) := by rw [e.2.1]; omega
    refine m_tell h e.1 (by rw [e2]; omega) (fun oz' ho => hp oz' (fun i hi => ?_))
    rw [ho i hi, e2]
theorem m_repeat {row start dof odz sz : Nat → Int32} {rz : Nat → Int32} {K ow cs dm sa rk : Nat → Nat} {n : Nat} (h : LibM row start dof K ow cs dm n) (hs : SAok K (cs n) sa rk) (ho : OrdM odz rz sz K ow cs dm n sa rk) {mz th on : Int32} {oz : Nat → Int32}
    {post : Int32 → Int32 → Int32 → (Nat → Int32) → Prop}
    (hbad : (∀ m : Nat, 2 ≤ m → m ≤ 20 → mz ≠ nI m) → post 0 1 on oz)
    (hgood : ∀ m : Nat, 2 ≤ m → m ≤ 20 → mz = nI m → ∀ oz', (∀ i, i < bl (Cg hnum (LL K (cs n) sa) n (cs n) m) (cs n - n) → oz' i = bs (K (sa (n + bp (Cg hnum (LL K (cs n) sa) n (cs n) m) (cs n - n)) + i))) → post (nI (bl (Cg hnum (LL K (cs n) sa) n (cs n) m) (cs n - n))) 0 (nI (bl (Cg hnum (LL K (cs n) sa) n (cs n) m) (cs n - n))) oz') :
    vc_MD_repeat mz (nI (cs n - n)) row odz sz post th on oz := by
  have hd := h.1
  have hS := doc_S hd
  have hN := doc_N hd
  have h64 := hd.2.2.2.1
  have hnN : n ≤ cs n := by
    have := doc_mono hd (show 0 ≤ n by omega) (Nat.le_refl n)
    omega
  have bad : (∀ m : Nat, 2 ≤ m → m ≤ 20 → mz ≠ nI m) → vc_MD_repeat_18 mz (nI (cs n - n)) row odz sz post 1 0 on oz := by
    intro g
    unfold vc_MD_repeat_18 vc_MD_repeat_23
    exact m_no ⟨fun e => absurd e (by decide), fun _ => hbad g⟩
  have good : ∀ m : Nat, 2 ≤ m → m ≤ 20 → mz = nI m → vc_MD_repeat_23 mz (nI (cs n - n)) row odz sz post 1 0 0 on oz := by
    intro m m1 m2 em
    subst em
    have hCl : ∀ i, 0 < Cg hnum (LL K (cs n) sa) n (cs n) m i → n + i + 1 < cs n ∧ Cg hnum (LL K (cs n) sa) n (cs n) m i ≤ LL K (cs n) sa (n + i + 1) := fun i hi => Cg_le hi
    have hblb : ∀ k, bl (Cg hnum (LL K (cs n) sa) n (cs n) m) k < 20000 := by
      intro k
      by_cases q : bl (Cg hnum (LL K (cs n) sa) n (cs n) m) k = 0
      · omega
      · have a := bl_at (C := Cg hnum (LL K (cs n) sa) n (cs n) m) k (by omega)
        have b := hCl (bp (Cg hnum (LL K (cs n) sa) n (cs n) m) k) (by omega)
        have := LL_lt hd hs b.1
        omega
    have key : ∀ f i at_, i + f = cs n - n + 1 → (at_ = if bl (Cg hnum (LL K (cs n) sa) n (cs n) m) i = 0 then nI 0 else nI (sa (n + bp (Cg hnum (LL K (cs n) sa) n (cs n) m) i) - ow (sa (n + bp (Cg hnum (LL K (cs n) sa) n (cs n) m) i)))) →
        vc_MD_repeat_38 (nI m) (nI (cs n - n)) row odz sz post (f + 1) (nI (bl (Cg hnum (LL K (cs n) sa) n (cs n) m) i)) at_ (nI i) 0 on oz := by
      intro f
      have out : ∀ i at_, i ≤ cs n - n + 1 → cs n - n < i + m → (at_ = if bl (Cg hnum (LL K (cs n) sa) n (cs n) m) i = 0 then nI 0 else nI (sa (n + bp (Cg hnum (LL K (cs n) sa) n (cs n) m) i) - ow (sa (n + bp (Cg hnum (LL K (cs n) sa) n (cs n) m) i)))) →
          vc_MD_tell at_ (nI (bl (Cg hnum (LL K (cs n) sa) n (cs n) m) i)) row (fun u4_0 u4_1 => post (nI (bl (Cg hnum (LL K (cs n) sa) n (cs n) m) i)) 0 u4_0 u4_1) on oz := by
        intro i at_ hi him hat
        refine m_best h hs hCl hat (fun oz' hoz => ?_)
        have z : ∀ j, j ≥ i ∨ j ≥ cs n - n → j ≤ cs n - n → Cg hnum (LL K (cs n) sa) n (cs n) m j = 0 := by
          intro j hj1 hj2
          have := Cg_zero (held := hnum) (ab := LL K (cs n) sa) (n := n) (N := cs n) (m := m) (l := n + j) Held_num (by omega) (by omega) (by unfold hnum; omega)
          rwa [Nat.add_sub_cancel_left] at this
        by_cases q : i ≤ cs n - n
        · have sk := bl_skip (C := Cg hnum (LL K (cs n) sa) n (cs n) m) q (fun j j1 j2 => z j (by omega) (by omega))
          rw [← sk.1, ← sk.2] at hoz
          rw [← sk.1]
          exact hgood m m1 m2 rfl oz' hoz
        · have sk := bl_skip (C := Cg hnum (LL K (cs n) sa) n (cs n) m) (show cs n - n ≤ i by omega) (fun j j1 j2 => z j (by omega) (by omega))
          rw [sk.1, sk.2] at hoz
          rw [sk.1]
          exact hgood m m1 m2 rfl oz' hoz
      induction f with
      | zero =>
        intro i at_ hi hat
        rw [vc_MD_repeat_38, nI_add, nI_ltI (by omega) (by omega)]
        exact ⟨fun _ => out i at_ (by omega) (by omega) hat, fun q => absurd (by omega) q⟩
      | succ f ih =>
        intro i at_ hi hat
        have hb := hblb i
        rw [vc_MD_repeat_38, nI_add, nI_ltI (by omega) (by omega)]
        refine ⟨fun q => out i at_ (by omega) q hat, fun q => ?_⟩
        have hC : Cg hnum (LL K (cs n) sa) n (cs n) m i = mn (LL K (cs n) sa) (n + i) (m - 1) := by
          have := Cg_at (held := hnum) (ab := LL K (cs n) sa) (n := n) (N := cs n) (m := m) (l := n + i) (r := n + i + m - 1) Held_num (by omega) (by omega) (by omega) (by unfold hnum; omega) (by unfold hnum; omega)
          rw [Nat.add_sub_cancel_left, show n + i + m - 1 - (n + i) = m - 1 by omega] at this
          exact this
        have l1 := LL_lt hd hs (show n + (i + 1) < cs n by omega)
        have e2 : nI i + 2 = nI (i + 2) := nI_add i 2
        rw [nI_1, nI_clamp (by omega), ho.2.2 _ (by omega), e2]
        refine ⟨(vpI (by omega)).mpr (by omega), m - 2 + 1, ?_⟩
        have loop : ∀ g k, k + g = m → 2 ≤ k → vc_MD_repeat_66 (nI m) (nI (cs n - n)) row odz sz post (fun x2' x3' x4' z_thrown' z_outSize' z_out' => vc_MD_repeat_38 (nI m) (nI (cs n - n)) row odz sz post (f + 1) x2' x3' x4' z_thrown' z_outSize' z_out') (g + 1) (nI (bl (Cg hnum (LL K (cs n) sa) n (cs n) m) i)) at_ (nI i) (nI (mn (LL K (cs n) sa) (n + i) (k - 1))) (nI (i + k)) 0 on oz := by
          intro g
          induction g with
          | zero =>
            intro k hk k2
            have ek : k = m := by omega
            subst ek
            have mb : mn (LL K (cs n) sa) (n + i) (k - 1) ≤ LL K (cs n) sa (n + i + 1) := mn_le _ _ (by omega) (by omega)
            rw [show n + (i + 1) = n + i + 1 by omega] at l1
            rw [vc_MD_repeat_66, nI_add, nI_leI (by omega) (by omega), nI_leI (by omega) (by omega)]
            unfold vc_MD_repeat_112
            rw [nI_1]
            refine ⟨fun _ => ⟨fun c => ?_, fun c => ⟨(vpI (by omega)).mpr (by omega), ?_⟩⟩, fun c => absurd (Nat.le_refl _) c⟩
            · have e1 : bl (Cg hnum (LL K (cs n) sa) n (cs n) k) (i + 1) = bl (Cg hnum (LL K (cs n) sa) n (cs n) k) i := by
                show (if _ < _ then _ else _) = _
                rw [if_neg (by omega)]
              have e2 : bp (Cg hnum (LL K (cs n) sa) n (cs n) k) (i + 1) = bp (Cg hnum (LL K (cs n) sa) n (cs n) k) i := by
                show (if _ < _ then _ else _) = _
                rw [if_neg (by omega)]
              have := ih (i + 1) at_ (by omega) (by rw [e1, e2]; exact hat)
              rw [e1] at this
              exact this
            · have e1 : bl (Cg hnum (LL K (cs n) sa) n (cs n) k) (i + 1) = mn (LL K (cs n) sa) (n + i) (k - 1) := by
                show (if _ < _ then _ else _) = _
                rw [if_pos (by omega), hC]
              have e2 : bp (Cg hnum (LL K (cs n) sa) n (cs n) k) (i + 1) = i := by
                show (if _ < _ then _ else _) = _
                rw [if_pos (by omega)]
              rw [nI_clamp (by omega), ho.1 i (by omega)]
              have := ih (i + 1) (nI (sa (n + i) - ow (sa (n + i)))) (by omega) (by rw [e1, e2, if_neg (by omega)])
              rw [e1] at this
              exact this
          | succ g ih2 =>
            intro k hk k2
            have mb : mn (LL K (cs n) sa) (n + i) (k - 1) ≤ LL K (cs n) sa (n + i + 1) := mn_le _ _ (by omega) (by omega)
            rw [show n + (i + 1) = n + i + 1 by omega] at l1
            have l2 := LL_lt hd hs (show n + (i + k) < cs n by omega)
            rw [vc_MD_repeat_66, nI_add, nI_leI (by omega) (by omega)]
            refine ⟨fun c => by omega, fun _ => ⟨(vpI (by omega)).mpr (by omega), ?_⟩⟩
            rw [nI_clamp (by omega), ho.2.2 _ (by omega), nI_minI (by omega) (by omega), nI_1]
            have e3 : min (mn (LL K (cs n) sa) (n + i) (k - 1)) (LL K (cs n) sa (n + (i + k))) = mn (LL K (cs n) sa) (n + i) (k + 1 - 1) := by
              rw [show k + 1 - 1 = k - 1 + 1 by omega]
              show _ = min _ (LL K (cs n) sa (n + i + (k - 1) + 1))
              rw [show n + i + (k - 1) + 1 = n + (i + k) by omega]
            rw [e3]
            exact ih2 (k + 1) (by omega) (by omega)
        have := loop (m - 2) 2 (by omega) (Nat.le_refl _)
        have e4 : mn (LL K (cs n) sa) (n + i) (2 - 1) = LL K (cs n) sa (n + (i + 1)) := by
          show min 100000 (LL K (cs n) sa (n + i + 0 + 1)) = _
          rw [show n + i + 0 + 1 = n + (i + 1) by omega]
          omega
        rw [e4] at this
        exact this
    unfold vc_MD_repeat_23
    refine m_ok ⟨fun _ => ⟨cs n - n + 1 + 1, ?_⟩, fun g => absurd rfl g⟩
    exact key (cs n - n + 1) 0 (nI 0) (by omega) rfl
  unfold vc_MD_repeat
  rcases nI_cases mz with g | ⟨j, hj, e⟩
  · refine ⟨fun _ => bad (fun m _ _ => neg_ne g (by omega)), fun c => absurd ?_ c⟩
    rw [Int32.lt_iff_toInt_lt] at g ⊢
    have e0 : (0 : Int32).toInt = 0 := by decide
    have e2 : (2 : Int32).toInt = 2 := by decide
    rw [e0] at g
    rw [e2]
    omega
  · subst e
    have e1 : nI j < 2 ↔ j < 2 := nI_ltI (a := j) (b := 2) (by omega) (by omega)
    have e2 : nI j ≤ 20 ↔ j ≤ 20 := nI_leI (a := j) (b := 20) (by omega) (by omega)
    rw [e1, e2]
    have nb : (j < 2 ∨ 20 < j) → ∀ m : Nat, 2 ≤ m → m ≤ 20 → nI j ≠ nI m := by
      intro c m m1 m2 e
      rw [nI_eq (by omega) (by omega)] at e
      omega
    exact ⟨fun c => bad (nb (Or.inl c)), fun c => ⟨fun c2 => good j (by omega) c2 rfl, fun c2 => bad (nb (Or.inr (by omega)))⟩⟩
