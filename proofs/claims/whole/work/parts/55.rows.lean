/-! rows of bytes; feed; add -/
def by_ (y : Int32) : Nat := 64 + y.toBitVec.toNat % 256
theorem by_b (y : Int32) : 64 ≤ by_ y ∧ by_ y < 320 := by unfold by_; omega
theorem by_c (y : Int32) : y &&& 255 = tx (by_ y) := by
  rw [pk_and y 8 (by decide), tx_byte (by unfold by_; omega)]
  congr 1
  unfold by_
  omega
theorem by_m (y : Int32) : y.toInt8.toInt32 = bs (by_ y) := by
  unfold bs sb_b
  congr 1
  apply Int8.toBitVec_inj.mp
  apply BitVec.eq_of_toNat_eq
  rw [Int32.toBitVec_toInt8, Int32.toBitVec_toInt8, BitVec.signExtend_eq_setWidth_of_le _ (by decide), BitVec.signExtend_eq_setWidth_of_le _ (by decide), BitVec.toNat_setWidth, BitVec.toNat_setWidth, pk_tn (by unfold by_; omega)]
  unfold by_
  omega
/-- the byte of v at a shift -/
def shv (v : Int32) (s : Nat) : Int32 := (v.toUInt32 >>> ((nI s).toUInt32 &&& Int32.toUInt32 31)).toInt32
theorem s_putFour {v : Int32} {l : Nat} (hl : l + 4 ≤ 16384) {bz : Nat → Int32} {post : Int32 → (Nat → Int32) → Prop}
    (hp : ∀ bz', (∀ i, bz' i = if l ≤ i ∧ i < l + 4 then tx (by_ (shv v (24 - 8 * (i - l)))) else bz i) → post (nI (l + 4)) bz') : vc_BR_putFour v 16384 post (nI l) bz := by
  have key : ∀ f j bz', j + f = 4 → (∀ i, bz' i = if l ≤ i ∧ i < l + j then tx (by_ (shv v (24 - 8 * (i - l)))) else bz i) → vc_BR_putFour_12 v 16384 post (f + 1) (if j = 4 then -8 else nI (24 - 8 * j)) (nI (l + j)) bz' := by
    intro f
    induction f with
    | zero =>
      intro j bz' hj hb
      have e : j = 4 := by omega
      subst e
      rw [vc_BR_putFour_12, if_pos rfl]
      exact ⟨fun _ => hp bz' hb, fun c => absurd (by decide) c⟩
    | succ f ih =>
      intro j bz' hj hb
      rw [vc_BR_putFour_12, if_neg (by omega)]
      refine ⟨fun c => absurd c (ls_nI (by omega)), fun _ => ⟨(vpI (by omega)).mpr (by omega), ?_⟩⟩
      rw [nI_clamp (by omega), nI_1]
      have e1 : nI (24 - 8 * j) + -8 = if j + 1 = 4 then (-8 : Int32) else nI (24 - 8 * (j + 1)) := by
        by_cases g : j + 1 = 4
        · rw [if_pos g, show j = 3 by omega]; decide
        · rw [if_neg g]
          have := nI_addneg (a := 24 - 8 * j) (b := 8) (by omega)
          rw [show 24 - 8 * (j + 1) = 24 - 8 * j - 8 by omega]
          exact this
      rw [e1]
      refine ih (j + 1) _ (by omega) (fun i => ?_)
      have e2 : ((v.toUInt32 >>> ((nI (24 - 8 * j)).toUInt32 &&& Int32.toUInt32 31)).toInt32) &&& 255 = tx (by_ (shv v (24 - 8 * j))) := by_c _
      rw [e2]
      unfold upd
      by_cases g : i = l + j
      · rw [if_pos g, if_pos (by omega), g, Nat.add_sub_cancel_left]
      · rw [if_neg g, hb i]
        by_cases g2 : l ≤ i ∧ i < l + j
        · rw [if_pos g2, if_pos (by omega)]
        · rw [if_neg g2, if_neg (by omega)]
  unfold vc_BR_putFour vc_BR_hasRoom
  rw [nI_subI (by omega), li4, nI_ltI (by omega) (by omega)]
  have := key 4 0 bz (by omega) (fun i => by rw [if_neg (by omega)])
  exact ⟨fun c => by omega, fun _ => ⟨fun _ => ⟨5, this⟩, fun c => absurd c (by decide)⟩⟩
/-- the twenty bytes of a feed -/
def fv (a b c d e : Int32) (k : Nat) : Nat := by_ (shv (if k < 4 then a else if k < 8 then b else if k < 12 then c else if k < 16 then d else e) (24 - 8 * (k % 4)))
theorem fv_b (a b c d e : Int32) (k : Nat) : 64 ≤ fv a b c d e k ∧ fv a b c d e k < 320 := by_b _
theorem s_feed {a b c d e : Int32} {l : Nat} (hl : l ≤ 16384) {bz : Nat → Int32} {post : Int32 → Int32 → (Nat → Int32) → Prop} {thr : Nat → Int32 → (Nat → Int32) → Prop}
    (h0 : 16384 < l + 20 → thr 1 (nI l) bz) (h1 : l + 20 ≤ 16384 → ∀ bz', (∀ i, i < l → bz' i = bz i) → (∀ k, k < 20 → bz' (l + k) = tx (fv a b c d e k)) → post (nI (l + 20)) (nI (l + 20)) bz') : vc_SI_feed a b c d e 16384 post thr (nI l) bz := by
  unfold vc_SI_feed vc_BR_hasRoom
  rw [nI_subI (by omega), li20, nI_ltI (by omega) (by omega)]
  refine ⟨fun q => ⟨fun g => absurd rfl g, fun _ => h0 (by omega)⟩, fun q => ⟨fun _ => ?_, fun g => absurd g (by decide)⟩⟩
  refine s_putFour (by omega) (fun b1 h1' => s_putFour (by omega) (fun b2 h2' => s_putFour (by omega) (fun b3 h3' => s_putFour (by omega) (fun b4 h4' => s_putFour (by omega) (fun b5 h5' => ?_)))))
  refine h1 (by omega) b5 (fun i hi => ?_) (fun k hk => ?_)
  · rw [h5', if_neg (by omega), h4', if_neg (by omega), h3', if_neg (by omega), h2', if_neg (by omega), h1', if_neg (by omega)]
  · unfold fv
    by_cases g1 : k < 4
    · rw [h5', if_neg (by omega), h4', if_neg (by omega), h3', if_neg (by omega), h2', if_neg (by omega), h1', if_pos (by omega), if_pos g1, show 24 - 8 * (l + k - l) = 24 - 8 * (k % 4) by omega]
    · rw [if_neg g1]
      by_cases g2 : k < 8
      · rw [h5', if_neg (by omega), h4', if_neg (by omega), h3', if_neg (by omega), h2', if_pos (by omega), if_pos g2, show 24 - 8 * (l + k - (l + 4)) = 24 - 8 * (k % 4) by omega]
      · rw [if_neg g2]
        by_cases g3 : k < 12
        · rw [h5', if_neg (by omega), h4', if_neg (by omega), h3', if_pos (by omega), if_pos g3, show 24 - 8 * (l + k - (l + 4 + 4)) = 24 - 8 * (k % 4) by omega]
        · rw [if_neg g3]
          by_cases g4 : k < 16
          · rw [h5', if_neg (by omega), h4', if_pos (by omega), if_pos g4, show 24 - 8 * (l + k - (l + 4 + 4 + 4)) = 24 - 8 * (k % 4) by omega]
          · rw [if_neg g4, h5', if_pos (by omega), show 24 - 8 * (l + k - (l + 4 + 4 + 4 + 4)) = 24 - 8 * (k % 4) by omega]
theorem m_feed {a b c d e : Int32} {l : Nat} (hl : l ≤ 16384) {tz : Nat → Int32} {th : Int32} {post : Int32 → Int32 → Int32 → (Nat → Int32) → Prop}
    (h0 : 16384 < l + 20 → post 0 1 (nI l) tz) (h1 : l + 20 ≤ 16384 → ∀ tz', (∀ i, i < l → tz' i = tz i) → (∀ k, k < 20 → tz' (l + k) = bs (fv a b c d e k)) → post (nI (l + 20)) 0 (nI (l + 20)) tz') : vc_MD_feed a b c d e post th (nI l) tz := by
  have e0 : nI l ≤ 16364 ↔ l ≤ 16364 := nI_leI (a := l) (b := 16364) (by omega) (by omega)
  unfold vc_MD_feed vc_MD_feed_22
  rw [e0]
  refine ⟨fun q => m_ok ⟨fun _ => ?_, fun g => absurd rfl g⟩, fun q => m_no ⟨fun g => absurd g (by decide), fun _ => h0 (by omega)⟩⟩
  have key : ∀ f k tz', k + f = 20 → (∀ i, i < l → tz' i = tz i) → (∀ j, j < k → tz' (l + j) = bs (fv a b c d e j)) → vc_MD_feed_33 a b c d e post (f + 1) (nI k) 0 (nI (l + k)) tz' := by
    intro f
    induction f with
    | zero =>
      intro k tz' hk ha hb
      rw [vc_MD_feed_33, li20, nI_leI (by omega) (by omega), show k = 20 by omega]
      exact ⟨fun _ => h1 (by omega) tz' ha (fun j hj => hb j (by omega)), fun c => absurd (by omega) c⟩
    | succ f ih =>
      intro k tz' hk ha hb
      have step : ∀ v, v = (if k < 4 then a else if k < 8 then b else if k < 12 then c else if k < 16 then d else e) → vc_MD_feed_86 a b c d e post (fun x6' z_thrown' z_size' z_tape' => vc_MD_feed_33 a b c d e post (f + 1) x6' z_thrown' z_size' z_tape') (nI k) v 0 (nI (l + k)) tz' := by
        intro v hv
        unfold vc_MD_feed_86
        have er : nI k - nI k / 4 * 4 = nI (k % 4) := pk_rem (d := 4) (by omega) (by omega) (by omega)
        rw [er, nI_clamp (by omega), nI_1, nI_1, li8, nI_mulI, li24, nI_subI (by omega)]
        refine ⟨(vpI (by omega)).mpr (by omega), ?_⟩
        have e2 : vp_nar .byte ((v.toUInt32 >>> ((nI (24 - 8 * (k % 4))).toUInt32 &&& Int32.toUInt32 31)).toInt32).toInt8.toInt32 = bs (fv a b c d e k) := by
          rw [pk_vb, by_m]
          unfold fv shv
          rw [← hv]
        rw [e2]
        refine ih (k + 1) _ (by omega) (fun i hi => ?_) (fun j hj => ?_)
        · rw [upN (by omega)]; exact ha i hi
        · by_cases g : j = k
          · rw [g, upS]
          · rw [upN (by omega)]; exact hb j (by omega)
      have e4 : (4 : Int32) ≤ nI k ↔ 4 ≤ k := nI_leI (a := 4) (by omega) (by omega)
      have e8 : (8 : Int32) ≤ nI k ↔ 8 ≤ k := nI_leI (a := 8) (by omega) (by omega)
      have e12 : (12 : Int32) ≤ nI k ↔ 12 ≤ k := nI_leI (a := 12) (by omega) (by omega)
      have e16 : (16 : Int32) ≤ nI k ↔ 16 ≤ k := nI_leI (a := 16) (by omega) (by omega)
      have e20 : (20 : Int32) ≤ nI k ↔ 20 ≤ k := nI_leI (a := 20) (by omega) (by omega)
      rw [vc_MD_feed_33, e4, e8, e12, e16, e20]
      refine ⟨fun c => by omega, fun _ => ⟨fun g1 => ⟨fun g2 => ⟨fun g3 => ⟨fun g4 => step _ ?_, fun g4 => step _ ?_⟩, fun g3 => step _ ?_⟩, fun g2 => step _ ?_⟩, fun g1 => step _ ?_⟩⟩
      · rw [if_neg (by omega), if_neg (by omega), if_neg (by omega), if_neg (by omega)]
      · rw [if_neg (by omega), if_neg (by omega), if_neg (by omega), if_pos (by omega)]
      · rw [if_neg (by omega), if_neg (by omega), if_pos (by omega)]
      · rw [if_neg (by omega), if_pos (by omega)]
      · rw [if_pos (by omega)]
  exact ⟨21, key 20 0 tz (by omega) (fun _ _ => rfl) (fun j hj => by omega)⟩
theorem s_add {text owners starts tb : Nat → Int32} {K ow cs : Nat → Nat} {n l : Nat} (h : LibC text owners starts K ow cs n) (hl : l ≤ 16384)
    {post : Int32 → Int32 → Int32 → (Nat → Int32) → (Nat → Int32) → (Nat → Int32) → Prop} {thr : Nat → Int32 → Int32 → (Nat → Int32) → (Nat → Int32) → (Nat → Int32) → Prop}
    (h0 : l = 0 → thr 0 (nI l) (nI n) text owners starts) (h1 : 1 ≤ l → (64 ≤ n ∨ 16384 < cs n - n + l) → thr 1 (nI l) (nI n) text owners starts)
    (h2 : 1 ≤ l → n < 64 → cs n - n + l ≤ 16384 → ∀ text' owners' starts', (∀ p, p < cs n → text' p = text p) → (∀ i, i < l → text' (cs n + i) = tb i) → text' (cs n + l) = tx n → (∀ p, owners' p = if cs n ≤ p ∧ p < cs n + l + 1 then nI n else owners p) →
      (∀ d, starts' d = if d = n + 1 then nI (cs n + l + 1) else starts d) → post (nI n) 0 (nI (n + 1)) text' owners' starts') :
    vc_SI_add 16384 tb post thr (nI l) (nI n) text owners starts := by
  have hd := h.1
  have hN := doc_N hd
  have h64 := hd.2.2.2.1
  have hst := h.2.2.2
  have hnN : n ≤ cs n := by
    have := doc_mono hd (show 0 ≤ n by omega) (Nat.le_refl n)
    omega
  unfold vc_SI_add vc_LB_hasRoom
  rw [nI_clamp (by omega), hst n (Nat.le_refl _), nI_subI hnN, li16384, nI_subI (by have := doc_S hd; omega), li64, nI_leI (by omega) (by omega), nI_ltI (by omega) (by omega), li0, nI_eq (by omega) (by omega)]
  refine ⟨fun q => ⟨(vpI (by omega)).mpr (by omega), fun c => ⟨fun g => absurd rfl g, fun _ => h1 (by omega) (Or.inl c)⟩, fun c => ⟨fun c2 => ⟨fun g => absurd rfl g, fun _ => h1 (by omega) (Or.inr (by omega))⟩, fun c2 => ⟨fun _ => ?_, fun g => absurd g (by decide)⟩⟩⟩, fun q => h0 q⟩
  unfold vc_LB_append
  rw [nI_clamp (by omega), hst n (Nat.le_refl _), nI_add, nI_1, nI_1, nI_clamp (by omega), nI_clamp (by omega), nI_clamp (by omega), nI_clamp (by omega), pk_cl 0]
  refine ⟨(vpI (by omega)).mpr (by omega), by decide, ls_nI (by omega), ls_nI (by omega), by omega, by omega, (vpI (by omega)).mpr (by omega), s_fill1 (by omega) (by omega) (by omega) (fun o' ho' => ⟨(vpI (by omega)).mpr (by omega), ?_⟩)⟩
  refine h2 (by omega) (by omega) (by omega) _ _ _ (fun p hp => ?_) (fun i hi => ?_) ?_ ho' (fun d => rfl)
  · rw [upN (by omega), pk_cpy_out (by omega)]
  · rw [upN (by omega), pk_cpy_in (by omega) (by omega), Nat.zero_add, Nat.add_sub_cancel_left]
  · rw [upS]; rfl
theorem m_add {row start dof tz : Nat → Int32} {K ow cs dm : Nat → Nat} {n l : Nat} {f : Nat → Nat} (h : LibM row start dof K ow cs dm n) (hl : l ≤ 16384) (htz : ∀ i, i < l → tz i = bs (f i)) {th : Int32}
    {post : Int32 → Int32 → Int32 → Int32 → Int32 → (Nat → Int32) → (Nat → Int32) → (Nat → Int32) → Prop}
    (h0 : l = 0 → post 0 1 (nI l) (nI n) (nI (cs n - n)) row start dof) (h1 : 1 ≤ l → (64 ≤ n ∨ 16384 < cs n - n + l) → post 0 2 (nI l) (nI n) (nI (cs n - n)) row start dof)
    (h2 : 1 ≤ l → n < 64 → cs n - n + l ≤ 16384 → ∀ row' start' dof', (∀ x, x < cs n - n → row' x = row x) → (∀ i, i < l → row' (cs n - n + i) = bs (f i)) → (∀ x, x < cs n - n → dof' x = dof x) → (∀ i, i < l → dof' (cs n - n + i) = nI n) →
      (∀ d, d ≤ n → start' d = start d) → start' (n + 1) = nI (cs n - n + l) → post (nI n) 0 0 (nI (n + 1)) (nI (cs n - n + l)) row' start' dof') :
    vc_MD_add tz post th (nI l) (nI n) (nI (cs n - n)) row start dof := by
  have hd := h.1
  have hS := doc_S hd
  have h64 := hd.2.2.2.1
  have hst := h.2.2.2.2
  unfold vc_MD_add vc_MD_add_19
  rw [li0, nI_eq (by omega) (by omega)]
  refine ⟨fun q => m_ok ⟨fun g => absurd rfl g, fun _ => ?_⟩, fun q => m_no ⟨fun _ => h0 q, fun g => absurd g (by decide)⟩⟩
  have bad : (64 ≤ n ∨ 16384 < cs n - n + l) → vc_MD_add_51 tz post 2 (nI 0) (nI l) (nI n) (nI (cs n - n)) row start dof := by
    intro g
    unfold vc_MD_add_51 vc_MD_add_56
    exact m_no ⟨fun g => absurd g (by decide), fun _ => h1 (by omega) g⟩
  rw [li64, nI_eq (by omega) (by omega), nI_add, li16384, nI_leI (by omega) (by omega)]
  refine ⟨fun c => bad (Or.inl (by omega)), fun c => ⟨fun c2 => ?_, fun c2 => bad (Or.inr (by omega))⟩⟩
  unfold vc_MD_add_56
  refine m_ok ⟨fun _ => ⟨(vpI (by omega)).mpr (by omega), ?_⟩, fun g => absurd rfl g⟩
  rw [nI_clamp (by omega)]
  have key : ∀ g k row' dof', k + g = l → (∀ x, x < cs n - n → row' x = row x) → (∀ i, i < k → row' (cs n - n + i) = bs (f i)) → (∀ x, x < cs n - n → dof' x = dof x) → (∀ i, i < k → dof' (cs n - n + i) = nI n) →
      vc_MD_add_79 tz post (g + 1) (nI k) (nI 0) (nI l) (nI n) (nI (cs n - n + k)) row' (upd start n (nI (cs n - n))) dof' := by
    intro g
    induction g with
    | zero =>
      intro k row' dof' hk a1 a2 a3 a4
      rw [vc_MD_add_79, nI_leI (by omega) (by omega), nI_1, li1, nI_subI (by omega), Nat.add_sub_cancel, nI_clamp (by omega), show k = l by omega]
      refine ⟨fun _ => ⟨(vpI (by omega)).mpr (by omega), h2 (by omega) (by omega) c2 _ _ _ a1 (fun i hi => a2 i (by omega)) a3 (fun i hi => a4 i (by omega)) (fun d hdn => ?_) ?_⟩, fun c => absurd (Nat.le_refl _) c⟩
      · rw [upN (by omega)]
        by_cases e : d = n
        · rw [e, upS, hst n (Nat.le_refl _)]
        · rw [upN e]
      · rw [upS]
    | succ g ih =>
      intro k row' dof' hk a1 a2 a3 a4
      rw [vc_MD_add_79, nI_leI (by omega) (by omega), nI_clamp (by omega), nI_clamp (by omega), htz k (by omega), nar_bs, nI_1 k, nI_1 (cs n - n + k)]
      refine ⟨fun c => by omega, fun _ => ⟨(vpI (by omega)).mpr (by omega), (vpI (by omega)).mpr (by omega), (vpI (by omega)).mpr (by omega), ih (k + 1) _ _ (by omega) (fun x hx => ?_) (fun i hi => ?_) (fun x hx => ?_) (fun i hi => ?_)⟩⟩
      · rw [upN (by omega)]; exact a1 x hx
      · by_cases e : i = k
        · rw [e, upS]
        · rw [upN (by omega)]; exact a2 i (by omega)
      · rw [upN (by omega)]; exact a3 x hx
      · by_cases e : i = k
        · rw [e, upS]
        · rw [upN (by omega)]; exact a4 i (by omega)
  exact ⟨l + 1, key l 0 row dof (by omega) (fun _ _ => rfl) (fun i hi => by omega) (fun _ _ => rfl) (fun i hi => by omega)⟩
