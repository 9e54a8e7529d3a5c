/-! seek of the class -/
theorem s_begin {rz starts text owners so ab sb0 tb : Nat → Int32} {K ow cs dm sk sa rk : Nat → Nat} {n m cap : Nat} (h : LibC text owners starts K ow cs n) (hm' : DocM cs dm n) (hs : SAok K (cs n) sa rk)
    (hso : ∀ k, k < cs n → so k = nI (sa k)) (hrz : ∀ p, p < cs n → rz p = nI (rk p)) (hab : ∀ r, r < cs n → ab r = nI (LL K (cs n) sa r))
    (hsk : ∀ i, i < m → 64 ≤ sk i ∧ sk i < 320) (hm1 : 1 ≤ m) (hm : m ≤ 200) (hcap : m ≤ cap) (htb : ∀ i, i < m → tb i = tx (sk i))
    {hits dh nk ms sl lr ll : Int32} {wh zk : Nat → Int32}
    {post : Int32 → Int32 → Int32 → Int32 → Int32 → (Nat → Int32) → (Nat → Int32) → (Nat → Int32) → Int32 → Int32 → Prop}
    (hp : ∀ hits dh sb wh' zk' lr ll, HitC hits dh wh' zk' K ow cs sk n m → (∀ i, i < m → sb i = tx (sk i)) → post hits dh 0 (-1) (nI m) sb wh' zk' lr ll) :
    vc_SE_begin 200 cap (nI n) text starts (nI n) (nI (cs n)) so rz ab (nI m) tb post hits dh nk ms sl sb0 wh zk lr ll := by
  have hd := h.1
  have hN := doc_N hd
  have h64 := hd.2.2.2.1
  have hnN : n ≤ cs n := by
    have := doc_mono hd (show 0 ≤ n by omega) (Nat.le_refl n)
    omega
  unfold vc_SE_begin vc_SE_forget vc_BR_copy
  rw [li0]
  refine ⟨ls_nI (by omega), ls_nI (by omega), ls_nI (by omega), ?_, ?_, ?_⟩
  · rw [nI_clamp (by omega), nI_clamp (by omega)]; omega
  · rw [nI_clamp (by omega), nI_clamp (by omega)]; omega
  rw [nI_clamp (by omega), nI_clamp (by omega)]
  have hsb : ∀ i, i < m → va_cpy tb sb0 0 0 m i = tx (sk i) := by
    intro i hi
    rw [pk_cpy_in (by omega) (by omega), Nat.sub_zero, Nat.zero_add]
    exact htb i hi
  refine s_locate h hs hso hsk hsb hm (by omega) (by omega) (fun low len hloc => ?_)
  obtain ⟨l1, l2, l3, l4, l5, l6⟩ := hloc
  have hlen : len ≤ m := by
    rcases l6 with e | ⟨r, r1, r2, e⟩
    · omega
    · have := (lw_ex hd hsk hm (Nat.zero_le m) (hs.1 r r2).1).1
      omega
  rw [nI_eq (by omega) (by omega)]
  refine ⟨fun q => ?_, fun q => ?_⟩
  · -- nowhere
    have hno : ∀ p, p < cs n → std K (cs n) sk m p = false := by
      intro p hp
      by_cases k : K p < 64
      · exact std_mark hd hsk hm hp k
      · have a := hs.2.1 p hp
        have b := SA_mark_iff hd hs a.1
        rw [a.2] at b
        have c := l5 (rk p) (by omega) a.1
        rw [a.2] at c
        unfold std
        simp only [decide_eq_false_iff_not]
        omega
    refine hp _ _ _ _ _ _ _ ⟨?_, fun p hp hs => ?_, 0, rfl, by omega, fun _ => 0, fun i hi => by omega, fun i j _ hj => by omega, fun v => ⟨fun ⟨i, hi, _⟩ => by omega, fun ⟨e, he, e2, _⟩ => ?_⟩⟩ hsb
    · rw [cnt_none hno]
    · rw [hno p hp] at hs
      exact absurd hs (by simp)
    · have c3 := doc_mono hd (show e + 1 ≤ n by omega) (Nat.le_refl n)
      unfold oft at e2
      rw [cnt_none (fun j hj => hno j (by omega))] at e2
      omega
  · -- it stands at low
    have hfull : low < cs n ∧ m ≤ lw K (cs n) sk m 0 (sa low) := by
      rcases l6 with e | ⟨r, r1, r2, e⟩
      · omega
      · have a := hs.1 r r2
        have x := lw_ex hd hsk hm (Nat.zero_le m) a.1
        have hge : low ≤ r := by
          by_cases g : r < low
          · have := x.2.2.2.2.1.mp (l3 r r1 g)
            omega
          · omega
        refine ⟨by omega, ?_⟩
        by_cases g : r = low
        · rw [← g]; omega
        · have y1 := l4 low (Nat.le_refl _) (by omega)
          have y2 := hs.2.2 low r (by omega) r2
          rw [XX_codF] at y1
          rw [XX_codF, XX_codF] at y2
          have md := lcF_mid (pt_lt (fr := 0) hsk) (sy_lt hd (sa low)) (sy_lt hd (sa r)) (Nat.le_of_lt y1) (Nat.le_of_lt y2)
          have e1 : lw K (cs n) sk m 0 (sa low) = lcF (pt sk m 0) (sy K (cs n) (sa low)) := rfl
          have e2 : lw K (cs n) sk m 0 (sa r) = lcF (pt sk m 0) (sy K (cs n) (sa r)) := rfl
          omega
    refine s_lastRankFrom hd hs hab hsk hm hfull.1 hfull.2 (fun last a1 a2 a3 => ?_)
    refine s_gather h hm' hs hrz hsk hm (by omega) (by omega) (fun p hp => ?_) (fun hits dh wh' zk' hh => hp _ _ _ _ _ _ _ hh hsb)
    have b := hs.2.1 p hp
    unfold std
    simp only [decide_eq_true_eq]
    constructor
    · rintro ⟨_, g⟩
      have hge : low ≤ rk p := by
        by_cases g2 : rk p < low
        · by_cases g3 : n ≤ rk p
          · have y := l3 (rk p) g3 g2
            rw [b.2] at y
            have := (lw_ex hd hsk hm (Nat.zero_le m) hp).2.2.2.2.1.mp y
            omega
          · have k := SA_mark_iff hd hs b.1
            rw [b.2] at k
            have := std_mark hd hsk hm hp (k.mpr (by omega))
            unfold std at this
            simp only [decide_eq_false_iff_not] at this
            omega
        · omega
      have := (a3 (rk p) hge b.1).mpr (by rw [b.2]; exact g)
      exact ⟨hge, this⟩
    · rintro ⟨g1, g2⟩
      have := (a3 (rk p) g1 b.1).mp g2
      rw [b.2] at this
      exact ⟨hm1, this⟩
/-- all that is matched -/
noncomputable def bst (K cs sk : Nat → Nat) (n m i : Nat) : Nat → Nat
  | 0 => 0
  | x + 1 => max (bst K cs sk n m i x) (lw K (cs n) sk m i x)
theorem bst_ge {K cs sk : Nat → Nat} {n m i : Nat} : ∀ N p, p < N → lw K (cs n) sk m i p ≤ bst K cs sk n m i N := by
  intro N
  induction N with
  | zero => intro p hp; omega
  | succ N ih =>
    intro p hp
    show _ ≤ max _ _
    by_cases e : p = N
    · rw [e]; omega
    · have := ih p (by omega)
      omega
theorem bst_le {K cs sk : Nat → Nat} {n m i b : Nat} : ∀ N, (∀ p, p < N → lw K (cs n) sk m i p ≤ b) → bst K cs sk n m i N ≤ b := by
  intro N
  induction N with
  | zero => intro _; exact Nat.zero_le _
  | succ N ih =>
    intro h
    show max _ _ ≤ _
    have := ih (fun p hp => h p (by omega))
    have := h N (by omega)
    omega
theorem s_matchedBytes {starts text owners so sb : Nat → Int32} {K ow cs sk sa rk : Nat → Nat} {n m : Nat} (h : LibC text owners starts K ow cs n) (hs : SAok K (cs n) sa rk)
    (hso : ∀ k, k < cs n → so k = nI (sa k)) (hsk : ∀ i, i < m → 64 ≤ sk i ∧ sk i < 320) (hm : m ≤ 200) (hsb : ∀ i, i < m → sb i = tx (sk i)) {lr ll ms : Int32}
    (hms : ms = -nI 1 ∨ ms = nI (sm (fun i => bst K cs sk n m i (cs n)) m))
    {post : Int32 → Int32 → Int32 → Int32 → Prop} (hp : ∀ lr ll, post (nI (sm (fun i => bst K cs sk n m i (cs n)) m)) (nI (sm (fun i => bst K cs sk n m i (cs n)) m)) lr ll) :
    vc_SE_matchedBytes 200 (nI m) sb text (nI n) (nI (cs n)) so post ms lr ll := by
  have hd := h.1
  have hN := doc_N hd
  have h64 := hd.2.2.2.1
  have hb : ∀ i, i < m → bst K cs sk n m i (cs n) ≤ 200 := fun i hi => bst_le _ (fun p hp => by have := (lw_ex hd hsk hm (show i ≤ m by omega) hp).1; omega)
  have hsm : ∀ k, k ≤ m → sm (fun i => bst K cs sk n m i (cs n)) k ≤ 40000 := by
    intro k hk
    have := sm_le (f := fun i => bst K cs sk n m i (cs n)) (b := 200) k (fun i hi => hb i (by omega))
    omega
  have hlen : ∀ i low len, i < m → Loc K cs sk sa n m i low len → len = bst K cs sk n m i (cs n) := by
    intro i low len hi hl
    have a : bst K cs sk n m i (cs n) ≤ len := bst_le _ (fun p hp => by
      have r := hs.2.1 p hp
      by_cases k : n ≤ rk p
      · have := hl.2.2.2.2.1 (rk p) k r.1
        rw [r.2] at this; exact this
      · have k2 := SA_mark_iff hd hs r.1
        rw [r.2] at k2
        have k3 := (doc_len0 hd hp).mp (k2.mpr (by omega))
        have := (lw_ex hd hsk hm (show i ≤ m by omega) hp).2.1
        omega)
    rcases hl.2.2.2.2.2 with e | ⟨r, r1, r2, e⟩
    · omega
    · have := bst_ge (K := K) (cs := cs) (sk := sk) (n := n) (m := m) (i := i) (cs n) (sa r) (hs.1 r r2).1
      omega
  have key : ∀ f i, i + f = m → ∀ lr ll, vc_SE_matchedBytes_15 200 (nI m) sb text (nI n) (nI (cs n)) so post (f + 1) (nI i) (nI (sm (fun i => bst K cs sk n m i (cs n)) i)) lr ll := by
    intro f
    induction f with
    | zero =>
      intro i hf lr ll
      have e : i = m := by omega
      subst e
      rw [vc_SE_matchedBytes_15]
      simp (disch := omega) only [li0, li1, li2, li3, li4, li5, li6, li7, li8, li16, li20, li24, li31, li63, li64, li65, li200, li255, li256, li320, li16384, li16448, li65535, li65536, nI_add, nI_subI, nI_mulI, nI_ltI, nI_leI, nI_eq, nI_clamp, vpI, nI_maxN, nI_minN, ls_nI, half_nI, nI_addneg]
      exact ⟨fun _ => hp _ _, fun q => absurd (by omega) q⟩
    | succ f ih =>
      intro i hf lr ll
      rw [vc_SE_matchedBytes_15]
      simp (disch := omega) only [li0, li1, li2, li3, li4, li5, li6, li7, li8, li16, li20, li24, li31, li63, li64, li65, li200, li255, li256, li320, li16384, li16448, li65535, li65536, nI_add, nI_subI, nI_mulI, nI_ltI, nI_leI, nI_eq, nI_clamp, vpI, nI_maxN, nI_minN, ls_nI, half_nI, nI_addneg]
      refine ⟨fun q => by omega, fun _ => s_locate h hs hso hsk hsb hm hm (by omega) (fun low len hl => ?_)⟩
      rw [nI_add, hlen i low len (by omega) hl]
      exact ih (i + 1) (by omega) _ _
  unfold vc_SE_matchedBytes
  rw [li1, li0]
  have hb0 := hsm m (Nat.le_refl _)
  rcases hms with e | e
  · rw [e]
    exact ⟨fun q => absurd rfl q, fun _ => ⟨m + 1, key m 0 (by omega) _ _⟩⟩
  · rw [e, nI_ne1 (by omega)]
    exact ⟨fun _ => hp _ _, fun q => absurd q id⟩
