/-! numbers of the text: tx; of the reference's bytes: bs -/
def tx (k : Nat) : Int32 := nI k - nI 64
def bs (k : Nat) : Int32 := sb_b (k - 64)
theorem tx_byte {k : Nat} (h : 64 ≤ k) : tx k = nI (k - 64) := nI_subI h
theorem tx_toInt {k : Nat} (h : k < 1000) : (tx k).toInt = (k : Int) - 64 := by
  unfold tx
  rw [pk_sub_toInt (by omega) (by omega)]
  rfl
theorem tx_eq {a b : Nat} (ha : a < 1000) (hb : b < 1000) : tx a = tx b ↔ a = b := by
  rw [← Int32.toInt_inj, tx_toInt ha, tx_toInt hb]
  omega
theorem tx_lt {a b : Nat} (ha : a < 1000) (hb : b < 1000) : tx a < tx b ↔ a < b := by
  rw [Int32.lt_iff_toInt_lt, tx_toInt ha, tx_toInt hb]
  omega
theorem tx_le {a b : Nat} (ha : a < 1000) (hb : b < 1000) : tx a ≤ tx b ↔ a ≤ b := by
  rw [Int32.le_iff_toInt_le, tx_toInt ha, tx_toInt hb]
  omega
theorem tx_rank {a : Nat} : tx a + nI 64 = nI a := by
  unfold tx
  rw [Int32.sub_add_cancel]
theorem bs_and {k : Nat} (h1 : 64 ≤ k) (h2 : k < 320) : bs k &&& nI 255 = tx k := by
  rw [tx_byte h1]
  exact (sb_byte (k - 64) (by omega)).1
theorem bs_eq {a b : Nat} (ha : 64 ≤ a) (ha2 : a < 320) (hb : 64 ≤ b) (hb2 : b < 320) : bs a = bs b ↔ a = b := by
  constructor
  · intro e
    have h1 := bs_and ha ha2
    rw [e, bs_and hb hb2] at h1
    exact ((tx_eq (by omega) (by omega)).mp h1).symm
  · intro e; rw [e]
theorem half_nI {n : Nat} (h : n < 2147483648) : ((nI n).toUInt32 >>> ((nI 1).toUInt32 &&& Int32.toUInt32 (nI 31))).toInt32 = nI (n / 2) := pk_ushrN (by omega) 1 1 (by decide)
theorem nI_addneg {a b : Nat} (h : b ≤ a) : nI a + -nI b = nI (a - b) := by
  rw [← Int32.sub_eq_add_neg]; exact nI_subI h
theorem neg1_toInt : (-nI 1).toInt = -1 := by decide
theorem nI_ne1 {a : Nat} (h : a < 2147483648) : (nI a = -nI 1) ↔ False := by
  rw [iff_false]
  intro e
  have := congrArg Int32.toInt e
  rw [nI_toInt (by omega), neg1_toInt] at this
  omega
theorem ne1_nI {a : Nat} (h : a < 2147483648) : (-nI 1 = nI a) ↔ False := by
  rw [iff_false]
  intro e
  exact (nI_ne1 h).mp e.symm
theorem ne1_lt {a : Nat} (h : a < 2147483648) : (-nI 1 < nI a) ↔ True := by
  rw [iff_true, Int32.lt_iff_toInt_lt, nI_toInt (by omega), neg1_toInt]
  omega
theorem lt_ne1 {a : Nat} (h : a < 2147483648) : (nI a < -nI 1) ↔ False := by
  rw [iff_false, Int32.lt_iff_toInt_lt, nI_toInt (by omega), neg1_toInt]
  omega
theorem le_ne1 {a : Nat} (h : a < 2147483648) : (nI a ≤ -nI 1) ↔ False := by
  rw [iff_false, Int32.le_iff_toInt_le, nI_toInt (by omega), neg1_toInt]
  omega
theorem ne1_le {a : Nat} (h : a < 2147483648) : (-nI 1 ≤ nI a) ↔ True := by
  rw [iff_true, Int32.le_iff_toInt_le, nI_toInt (by omega), neg1_toInt]
  omega
theorem ne1_neg : (-nI 1 < nI 0) ↔ True := by decide
/-! leaves -/
theorem s_fill1 {a b n : Nat} {v : Int32} (hab : a ≤ b) (hbn : b ≤ n) (hn : n < 2000000000) {post : (Nat → Int32) → Prop} {z : Nat → Int32}
    (h : ∀ z', (∀ i, z' i = if a ≤ i ∧ i < b then v else z i) → post z') : vc_AR_fill1 (nI a) (nI b) v n post z := by
  unfold vc_AR_fill1 vc_AR_rangeCheck
  simp (disch := omega) only [li0, li1, li2, li3, li4, li5, li6, li7, li8, li16, li20, li24, li31, li63, li64, li65, li200, li255, li256, li320, li16384, li16448, li65535, li65536, nI_add, nI_subI, nI_mulI, nI_ltI, nI_leI, nI_eq, nI_clamp, vpI, nI_maxN, nI_minN, ls_nI, half_nI, nI_addneg]
  have key : ∀ r x z0, x + r = b → a ≤ x → (∀ i, z0 i = if a ≤ i ∧ i < x then v else z i) → vc_AR_fill1_10 (nI a) (nI b) v n post (r + 1) (nI x) z0 := by
    intro r
    induction r with
    | zero =>
      intro x z0 hx hax hz
      rw [vc_AR_fill1_10]
      simp (disch := omega) only [li0, li1, li2, li3, li4, li5, li6, li7, li8, li16, li20, li24, li31, li63, li64, li65, li200, li255, li256, li320, li16384, li16448, li65535, li65536, nI_add, nI_subI, nI_mulI, nI_ltI, nI_leI, nI_eq, nI_clamp, vpI, nI_maxN, nI_minN, ls_nI, half_nI, nI_addneg]
      refine ⟨fun _ => h _ (fun i => ?_), fun q => absurd (by omega) q⟩
      rw [hz i, show x = b by omega]
    | succ r ih =>
      intro x z0 hx hax hz
      rw [vc_AR_fill1_10]
      simp (disch := omega) only [li0, li1, li2, li3, li4, li5, li6, li7, li8, li16, li20, li24, li31, li63, li64, li65, li200, li255, li256, li320, li16384, li16448, li65535, li65536, nI_add, nI_subI, nI_mulI, nI_ltI, nI_leI, nI_eq, nI_clamp, vpI, nI_maxN, nI_minN, ls_nI, half_nI, nI_addneg]
      refine ⟨fun q => by omega, fun _ => ⟨by omega, ih _ _ (by omega) (by omega) (fun i => ?_)⟩⟩
      unfold upd
      by_cases e : i = x
      · rw [if_pos e, if_pos (by omega)]
      · rw [if_neg e, hz i]
        by_cases e2 : a ≤ i ∧ i < x
        · rw [if_pos e2, if_pos (by omega)]
        · rw [if_neg e2, if_neg (by omega)]
  refine ⟨fun _ => ⟨fun _ => ⟨fun _ => ⟨b - a + 1, key (b - a) a z (by omega) (by omega) (fun i => ?_)⟩, fun q => absurd (by omega) q⟩, fun q => absurd (by omega) q⟩, fun q => absurd (by omega) q⟩
  rw [if_neg (by omega)]
theorem s_fill0 {n : Nat} {v : Int32} (hn : n < 2000000000) {post : (Nat → Int32) → Prop} {z : Nat → Int32}
    (h : ∀ z', (∀ i, z' i = if i < n then v else z i) → post z') : vc_AR_fill0 v n post z := by
  have key : ∀ r x z0, x + r = n → (∀ i, z0 i = if i < x then v else z i) → vc_AR_fill0_5 v n post (r + 1) (nI x) (nI n) z0 := by
    intro r
    induction r with
    | zero =>
      intro x z0 hx hz
      rw [vc_AR_fill0_5]
      simp (disch := omega) only [li0, li1, li2, li3, li4, li5, li6, li7, li8, li16, li20, li24, li31, li63, li64, li65, li200, li255, li256, li320, li16384, li16448, li65535, li65536, nI_add, nI_subI, nI_mulI, nI_ltI, nI_leI, nI_eq, nI_clamp, vpI, nI_maxN, nI_minN, ls_nI, half_nI, nI_addneg]
      refine ⟨fun _ => h _ (fun i => ?_), fun q => absurd (by omega) q⟩
      rw [hz i, show x = n by omega]
    | succ r ih =>
      intro x z0 hx hz
      rw [vc_AR_fill0_5]
      simp (disch := omega) only [li0, li1, li2, li3, li4, li5, li6, li7, li8, li16, li20, li24, li31, li63, li64, li65, li200, li255, li256, li320, li16384, li16448, li65535, li65536, nI_add, nI_subI, nI_mulI, nI_ltI, nI_leI, nI_eq, nI_clamp, vpI, nI_maxN, nI_minN, ls_nI, half_nI, nI_addneg]
      refine ⟨fun q => by omega, fun _ => ⟨by omega, ih _ _ (by omega) (fun i => ?_)⟩⟩
      unfold upd
      by_cases e : i = x
      · rw [if_pos e, if_pos (by omega)]
      · rw [if_neg e, hz i]
        by_cases e2 : i < x
        · rw [if_pos e2, if_pos (by omega)]
        · rw [if_neg e2, if_neg (by omega)]
  exact ⟨n + 1, key n 0 z (by omega) (fun i => by rw [if_neg (by omega)])⟩
/-- the library's cells -/
def LibC (text owners starts : Nat → Int32) (K ow cs : Nat → Nat) (n : Nat) : Prop :=
  DocOk K ow cs n ∧ (∀ p, p < cs n → text p = tx (K p)) ∧ (∀ p, p < cs n → owners p = nI (ow p)) ∧ (∀ d, d ≤ n → starts d = nI (cs d))
theorem DocOk_le {K ow cs : Nat → Nat} {n m : Nat} (h : DocOk K ow cs n) (hm : m ≤ n) : DocOk K ow cs m := by
  obtain ⟨a, b, c, d, e⟩ := h
  refine ⟨a, fun x hx => b x (by omega), fun x p hx => c x p (by omega), by omega, ?_⟩
  have := cs_mono b n m hm (Nat.le_refl n)
  omega
theorem LibC_le {text owners starts : Nat → Int32} {K ow cs : Nat → Nat} {n m : Nat} (h : LibC text owners starts K ow cs n) (hm : m ≤ n) : LibC text owners starts K ow cs m := by
  obtain ⟨a, b, c, d⟩ := h
  have := cs_mono a.2.1 n m hm (Nat.le_refl n)
  exact ⟨DocOk_le a hm, fun p hp => b p (by omega), fun p hp => c p (by omega), fun x hx => d x (by omega)⟩
theorem s_alike {text owners starts : Nat → Int32} {K ow cs : Nat → Nat} {n p q k : Nat} (h : LibC text owners starts K ow cs n) (hp : p < cs n) (hq : q < cs n) (hne : p ≠ q)
    (hk : k ≤ lcp K (cs n) p q) {post : Int32 → Prop} (hpost : post (nI (lcp K (cs n) p q))) : vc_LB_alike (nI p) (nI q) (nI k) (nI n) text starts post := by
  obtain ⟨hd, ht, ho, hs⟩ := h
  have hN := doc_N hd
  have h64 := hd.2.2.2.1
  obtain ⟨a, b, c⟩ := lcp_at hd hp hq hne
  have key : ∀ r x, x + r = lcp K (cs n) p q → vc_LB_alike_15 (nI p) (nI q) (nI k) (nI n) text starts post (r + 1) (nI (cs n - max p q)) (nI x) := by
    intro r
    induction r with
    | zero =>
      intro x hx
      rw [vc_LB_alike_15]
      simp (disch := omega) only [li0, li1, li2, li3, li4, li5, li6, li7, li8, li16, li20, li24, li31, li63, li64, li65, li200, li255, li256, li320, li16384, li16448, li65535, li65536, nI_add, nI_subI, nI_mulI, nI_ltI, nI_leI, nI_eq, nI_clamp, vpI, nI_maxN, nI_minN, ls_nI, half_nI, nI_addneg, ht, tx_eq]
      refine ⟨fun q => by omega, fun _ => ⟨by omega, by omega, fun _ => ?_, fun e => ?_⟩⟩
      · rw [show x = lcp K (cs n) p q by omega]; exact hpost
      · rw [tx_eq (by have := doc_K hd a; rw [show x = lcp K (cs n) p q by omega]; omega) (by have := doc_K hd b; rw [show x = lcp K (cs n) p q by omega]; omega)] at e
        rw [show x = lcp K (cs n) p q by omega] at e
        exact absurd e c
    | succ r ih =>
      intro x hx
      rw [vc_LB_alike_15]
      have e := lcp_same hd hp hq hne (show x < lcp K (cs n) p q by omega)
      simp (disch := omega) only [li0, li1, li2, li3, li4, li5, li6, li7, li8, li16, li20, li24, li31, li63, li64, li65, li200, li255, li256, li320, li16384, li16448, li65535, li65536, nI_add, nI_subI, nI_mulI, nI_ltI, nI_leI, nI_eq, nI_clamp, vpI, nI_maxN, nI_minN, ls_nI, half_nI, nI_addneg, ht]
      refine ⟨fun q => by omega, fun _ => ⟨by omega, by omega, fun z => absurd (by rw [e.2.2.1]) z, fun _ => ih (x + 1) (by omega)⟩⟩
  unfold vc_LB_alike vc_LB_indexedText
  simp (disch := omega) only [li0, li1, li2, li3, li4, li5, li6, li7, li8, li16, li20, li24, li31, li63, li64, li65, li200, li255, li256, li320, li16384, li16448, li65535, li65536, nI_add, nI_subI, nI_mulI, nI_ltI, nI_leI, nI_eq, nI_clamp, vpI, nI_maxN, nI_minN, ls_nI, half_nI, nI_addneg, hs]
  exact ⟨by omega, lcp K (cs n) p q - k + 1, key (lcp K (cs n) p q - k) k (by omega)⟩
