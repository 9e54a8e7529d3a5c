/-! the invariant -/
def RowI (len : Int32) (b : Nat → Int32) (mlen : Int32) (mb : Nat → Int32) (n : Nat) (f : Nat → Nat) (cap : Nat) : Prop :=
  len = nI n ∧ mlen = nI n ∧ n ≤ cap ∧ (∀ i, i < n → 64 ≤ f i ∧ f i < 320) ∧ (∀ i, i < n → b i = tx (f i)) ∧ (∀ i, i < n → mb i = bs (f i))
def LibI (docs mdocs mrows : Int32) (text owners starts row start dof : Nat → Int32) (K ow cs dm : Nat → Nat) (nd : Nat) : Prop :=
  docs = nI nd ∧ mdocs = nI nd ∧ mrows = nI (cs nd - nd) ∧ LibC text owners starts K ow cs nd ∧ LibM row start dof K ow cs dm nd
def IxI (ix mix msuf : Int32) (text owners starts row start dof : Nat → Int32) (first size : Int32) (so rz ab : Nat → Int32) (pz : Nat → Int64) (order rankOf same : Nat → Int32) (K ow cs dm sa rk : Nat → Nat) (ni nd : Nat) : Prop :=
  ix = nI ni ∧ mix = nI ni ∧ msuf = nI (cs ni - ni) ∧ ni ≤ nd ∧ LibC text owners starts K ow cs ni ∧ LibM row start dof K ow cs dm ni ∧ OrdC first size so rz ab pz K ow cs ni sa rk ∧ OrdM order rankOf same K ow cs dm ni sa rk
def SeI (hits dh nk ms : Int32) (wh nh nl zk : Nat → Int32) (K ow cs sf : Nat → Nat) (ni sn : Nat) : Prop :=
  HitC hits dh wh zk K ow cs sf ni sn ∧ (nk = 0 ∨ (nk = 1 ∧ NearC nh nl K ow cs sf ni sn)) ∧ (ms = -nI 1 ∨ ms = nI (sm (fun i => bst K cs sf ni sn i (cs ni)) sn))
def Inv (z_p1_tape_length : Int32) (z_p1_tape_bytes : Nat → Int32) (z_p1_told_length : Int32) (z_p1_told_bytes : Nat → Int32) (z_p1_library_documents : Int32) (z_p1_library_indexed : Int32) (z_p1_library_text : Nat → Int32) (z_p1_library_owners : Nat → Int32) (z_p1_library_starts : Nat → Int32) (z_p1_order_first : Int32) (z_p1_order_size : Int32) (z_p1_order_locatedRank : Int32) (z_p1_order_locatedLength : Int32) (z_p1_order_sorted : Nat → Int32) (z_p1_order_ranks : Nat → Int32) (z_p1_order_alikeBefore : Nat → Int32) (z_p1_order_piecesUpTo : Nat → Int64) (z_p1_order_sorter_size : Int32) (z_p1_order_sorter_byTail : Nat → Int32) (z_p1_order_sorter_newRanks : Nat → Int32) (z_p1_order_sorter_tally : Nat → Int32) (z_p1_search_hits : Int32) (z_p1_search_documentsHit : Int32) (z_p1_search_nearKnown : Int32) (z_p1_search_matchedSum : Int32) (z_p1_search_sought_length : Int32) (z_p1_search_sought_bytes : Nat → Int32) (z_p1_search_wheres : Nat → Int32) (z_p1_search_nearHits : Nat → Int32) (z_p1_search_nearLast : Nat → Int32) (z_p1_search_documentKeys : Nat → Int32) (z_p1_window_bestPosition : Int32) (z_p1_window_bestLength : Int32) (z_p1_window_leastFrom : Int32) (z_p1_window_leastTo : Int32) (z_p1_window_inside : Nat → Int32) (z_p1_window_least : Nat → Int32) (z_p1_phraseBook_earlierLength : Int32) (z_p1_phraseBook_earlierPosition : Int32) (z_p1_phraseBook_answers : Nat → Int64) (z_p1_phraseBook_amounts : Nat → Int32) (z_p2_thrown : Int32) (z_p2_size : Int32) (z_p2_outSize : Int32) (z_p2_soughtSize : Int32) (z_p2_documents : Int32) (z_p2_indexed : Int32) (z_p2_suffixes : Int32) (z_p2_rows : Int32) (z_p2_lesser : Int32) (z_p2_tape : Nat → Int32) (z_p2_row : Nat → Int32) (z_p2_out : Nat → Int32) (z_p2_sought : Nat → Int32) (z_p2_start : Nat → Int32) (z_p2_documentOf : Nat → Int32) (z_p2_order : Nat → Int32) (z_p2_rankOf : Nat → Int32) (z_p2_same : Nat → Int32) (z_p2_work : Nat → Int32) (z_p2_next : Nat → Int32) (z_p2_often : Nat → Int32) (z_p2_has : Nat → Int32) (z_p3 : Nat → Int64) : Prop :=
  ∃ (tn : Nat) (tf : Nat → Nat) (on : Nat) (of_ : Nat → Nat) (sn : Nat) (sf : Nat → Nat) (K ow cs dm : Nat → Nat) (nd : Nat) (K0 ow0 cs0 dm0 sa rk : Nat → Nat) (ni : Nat),
    RowI z_p1_tape_length z_p1_tape_bytes z_p2_size z_p2_tape tn tf 16384 ∧
    RowI z_p1_told_length z_p1_told_bytes z_p2_outSize z_p2_out on of_ 16384 ∧
    RowI z_p1_search_sought_length z_p1_search_sought_bytes z_p2_soughtSize z_p2_sought sn sf 200 ∧
    LibI z_p1_library_documents z_p2_documents z_p2_rows z_p1_library_text z_p1_library_owners z_p1_library_starts z_p2_row z_p2_start z_p2_documentOf K ow cs dm nd ∧
    IxI z_p1_library_indexed z_p2_indexed z_p2_suffixes z_p1_library_text z_p1_library_owners z_p1_library_starts z_p2_row z_p2_start z_p2_documentOf z_p1_order_first z_p1_order_size z_p1_order_sorted z_p1_order_ranks z_p1_order_alikeBefore z_p1_order_piecesUpTo z_p2_order z_p2_rankOf z_p2_same K0 ow0 cs0 dm0 sa rk ni nd ∧
    SeI z_p1_search_hits z_p1_search_documentsHit z_p1_search_nearKnown z_p1_search_matchedSum z_p1_search_wheres z_p1_search_nearHits z_p1_search_nearLast z_p1_search_documentKeys K0 ow0 cs0 sf ni sn ∧
    PhC z_p1_phraseBook_answers z_p1_phraseBook_amounts K0 cs0 ni
/-! ends of a case -/
theorem fin_ok {A : Prop} {z3 : Nat → Int64} {v w : Int64} (e : v = w) (h : A) :
    (((0 : Int32) = 0 → ((¬ (0 : Int32) = 0 → A) ∧ ((0 : Int32) = 0 → vp_in 0 1 ∧ (((lg_cmp ((vp_updL z3 (0 : Int32).toNatClampNeg v) (0 : Int32).toNatClampNeg) w) = 0 → A) ∧ (¬ ((lg_cmp ((vp_updL z3 (0 : Int32).toNatClampNeg v) (0 : Int32).toNatClampNeg) w) = 0) → False))))) ∧ (¬ ((0 : Int32) = 0) → False)) := by
  refine ⟨fun _ => ⟨fun g => absurd rfl g, fun _ => ⟨(vpI (k := 0) (by omega)).mpr (by omega), fun _ => h, fun g => g ?_⟩⟩, fun g => g rfl⟩
  rw [pk_uLs, lg_cmp_eq]
  exact e
theorem fin_thr {A B : Prop} {k : Int32} (hk : ¬ k = 0) (h : A) : ((k = k → ((¬ k = 0 → A) ∧ (k = 0 → B))) ∧ (¬ (k = k) → False)) :=
  ⟨fun _ => ⟨fun _ => h, fun g => absurd g hk⟩, fun g => g rfl⟩
theorem x_in {i L k : Nat} (h : 6 * i + 6 ≤ L) (hL : L ≤ 3072) (hk : k < 6) : vp_in (nI (6 * i) + nI k) L := by
  rw [nI_add]
  exact (vpI (by omega)).mpr (by omega)
theorem vp0 : vp_in 0 1 := (vpI (k := 0) (by omega)).mpr (by omega)
/-! the library grows -/
def xK (K cs f : Nat → Nat) (n l : Nat) : Nat → Nat := fun p => if p < cs n then K p else if p < cs n + l then f (p - cs n) else n
def xow (ow cs : Nat → Nat) (n : Nat) : Nat → Nat := fun p => if p < cs n then ow p else n
def xcs (cs : Nat → Nat) (n l : Nat) : Nat → Nat := fun d => if d ≤ n then cs d else cs n + l + 1
def xdm (dm cs : Nat → Nat) (n : Nat) : Nat → Nat := fun x => if x < cs n - n then dm x else n
theorem xDocOk {K ow cs f : Nat → Nat} {n l : Nat} (hd : DocOk K ow cs n) (hl : 1 ≤ l) (hn : n < 64) (hr : cs n - n + l ≤ 16384) (hf : ∀ i, i < l → 64 ≤ f i ∧ f i < 320) : DocOk (xK K cs f n l) (xow ow cs n) (xcs cs n l) (n + 1) := by
  have hnN : n ≤ cs n := by
    have := doc_mono hd (show 0 ≤ n by omega) (Nat.le_refl n)
    omega
  have e1 : ∀ d, d ≤ n → xcs cs n l d = cs d := fun d h => if_pos h
  have e2 : xcs cs n l (n + 1) = cs n + l + 1 := if_neg (by omega)
  refine ⟨by rw [e1 0 (by omega)]; exact hd.1, fun d h => ?_, fun d p h h1 h2 => ?_, by omega, by rw [e2]; omega⟩
  · by_cases q : d = n
    · rw [q, e1 n (Nat.le_refl _), e2]; omega
    · rw [e1 d (by omega), e1 (d + 1) (by omega)]
      exact hd.2.1 d (by omega)
  · by_cases q : d = n
    · subst q
      rw [e1 d (Nat.le_refl _)] at h1
      rw [e2] at h2
      rw [e2]
      have a1 : xow ow cs d p = d := if_neg (by omega)
      refine ⟨a1, fun g => ?_, fun g => ?_⟩
      · show (if p < cs d then K p else if p < cs d + l then f (p - cs d) else d) = d
        rw [if_neg (by omega), if_neg (by omega)]
      · have : xK K cs f d l p = f (p - cs d) := by
          show (if p < cs d then K p else if p < cs d + l then f (p - cs d) else d) = _
          rw [if_neg (by omega), if_pos (by omega)]
        rw [this]
        exact hf _ (by omega)
    · rw [e1 d (by omega)] at h1
      rw [e1 (d + 1) (by omega)] at h2 ⊢
      have m := doc_mono hd (show d + 1 ≤ n by omega) (Nat.le_refl n)
      have a1 : xow ow cs n p = ow p := if_pos (by omega)
      have a2 : xK K cs f n l p = K p := if_pos (by omega)
      rw [a1, a2]
      exact hd.2.2.1 d p (by omega) h1 h2
theorem xLibC {text owners starts text' owners' starts' tb : Nat → Int32} {K ow cs f : Nat → Nat} {n l : Nat} (h : LibC text owners starts K ow cs n) (hl : 1 ≤ l) (hn : n < 64) (hr : cs n - n + l ≤ 16384) (hf : ∀ i, i < l → 64 ≤ f i ∧ f i < 320) (htb : ∀ i, i < l → tb i = tx (f i))
    (t1 : ∀ p, p < cs n → text' p = text p) (t2 : ∀ i, i < l → text' (cs n + i) = tb i) (t3 : text' (cs n + l) = tx n) (t4 : ∀ p, owners' p = if cs n ≤ p ∧ p < cs n + l + 1 then nI n else owners p) (t5 : ∀ d, starts' d = if d = n + 1 then nI (cs n + l + 1) else starts d) :
    LibC text' owners' starts' (xK K cs f n l) (xow ow cs n) (xcs cs n l) (n + 1) := by
  obtain ⟨hd, ht, ho, hs⟩ := h
  have e1 : ∀ d, d ≤ n → xcs cs n l d = cs d := fun d h => if_pos h
  have e2 : xcs cs n l (n + 1) = cs n + l + 1 := if_neg (by omega)
  refine ⟨xDocOk hd hl hn hr hf, fun p hp => ?_, fun p hp => ?_, fun d h => ?_⟩
  · rw [e2] at hp
    show _ = tx (if p < cs n then K p else if p < cs n + l then f (p - cs n) else n)
    by_cases q : p < cs n
    · rw [if_pos q, t1 p q, ht p q]
    · rw [if_neg q]
      by_cases q2 : p < cs n + l
      · rw [if_pos q2]
        have := t2 (p - cs n) (by omega)
        rw [show cs n + (p - cs n) = p by omega, htb _ (by omega)] at this
        exact this
      · rw [if_neg q2, show p = cs n + l by omega]; exact t3
  · rw [e2] at hp
    show _ = nI (if p < cs n then ow p else n)
    rw [t4 p]
    by_cases q : p < cs n
    · rw [if_pos q, if_neg (by omega), ho p q]
    · rw [if_neg q, if_pos (by omega)]
  · rw [t5 d]
    by_cases q : d = n + 1
    · rw [if_pos q, q, e2]
    · rw [if_neg q, e1 d (by omega), hs d (by omega)]
theorem xLibM {row start dof row' start' dof' : Nat → Int32} {K ow cs dm f : Nat → Nat} {n l : Nat} (h : LibM row start dof K ow cs dm n) (hl : 1 ≤ l) (hn : n < 64) (hr : cs n - n + l ≤ 16384) (hf : ∀ i, i < l → 64 ≤ f i ∧ f i < 320)
    (t1 : ∀ x, x < cs n - n → row' x = row x) (t2 : ∀ i, i < l → row' (cs n - n + i) = bs (f i)) (t3 : ∀ x, x < cs n - n → dof' x = dof x) (t4 : ∀ i, i < l → dof' (cs n - n + i) = nI n) (t5 : ∀ d, d ≤ n → start' d = start d) (t6 : start' (n + 1) = nI (cs n - n + l)) :
    LibM row' start' dof' (xK K cs f n l) (xow ow cs n) (xcs cs n l) (xdm dm cs n) (n + 1) := by
  obtain ⟨hd, hm, hrw, ho, hs⟩ := h
  have hnN : n ≤ cs n := by
    have := doc_mono hd (show 0 ≤ n by omega) (Nat.le_refl n)
    omega
  have e1 : ∀ d, d ≤ n → xcs cs n l d = cs d := fun d h => if_pos h
  have e2 : xcs cs n l (n + 1) = cs n + l + 1 := if_neg (by omega)
  have e3 : ∀ x, x < cs n - n → xdm dm cs n x = dm x := fun x h => if_pos h
  have e4 : ∀ x, ¬ x < cs n - n → xdm dm cs n x = n := fun x h => if_neg h
  refine ⟨xDocOk hd hl hn hr hf, fun x hx => ?_, fun x hx => ?_, fun x hx => ?_, fun d h => ?_⟩
  · rw [e2] at hx
    by_cases q : x < cs n - n
    · have a := hm x q
      rw [e3 x q, e1 _ (by omega), e1 _ (by omega)]
      exact ⟨by omega, a.2⟩
    · rw [e4 x q, e1 n (Nat.le_refl _), e2]
      omega
  · rw [e2] at hx
    by_cases q : x < cs n - n
    · have a := dm_at hd hm q
      rw [e3 x q, t1 x q, hrw x q]
      congr 1
      exact (if_pos a.2.1).symm
    · rw [e4 x q]
      have := t2 (x - (cs n - n)) (by omega)
      rw [show cs n - n + (x - (cs n - n)) = x by omega] at this
      rw [this]
      congr 1
      show _ = (if x + n < cs n then K (x + n) else if x + n < cs n + l then f (x + n - cs n) else n)
      rw [if_neg (by omega), if_pos (by omega)]
      congr 1
      omega
  · rw [e2] at hx
    by_cases q : x < cs n - n
    · rw [e3 x q, t3 x q, ho x q]
    · rw [e4 x q]
      have := t4 (x - (cs n - n)) (by omega)
      rw [show cs n - n + (x - (cs n - n)) = x by omega] at this
      exact this
  · by_cases q : d = n + 1
    · rw [q, t6, e2]
      congr 1
      omega
    · rw [e1 d (by omega), t5 d (by omega), hs d (by omega)]
theorem LibC_keep {text owners starts text' owners' starts' : Nat → Int32} {K ow cs : Nat → Nat} {n : Nat} (h : LibC text owners starts K ow cs n) (t1 : ∀ p, p < cs n → text' p = text p) (t4 : ∀ p, p < cs n → owners' p = owners p) (t5 : ∀ d, d ≤ n → starts' d = starts d) : LibC text' owners' starts' K ow cs n :=
  ⟨h.1, fun p hp => by rw [t1 p hp]; exact h.2.1 p hp, fun p hp => by rw [t4 p hp]; exact h.2.2.1 p hp, fun d hd => by rw [t5 d hd]; exact h.2.2.2 d hd⟩
theorem LibM_keep {row start dof row' start' dof' : Nat → Int32} {K ow cs dm : Nat → Nat} {n : Nat} (h : LibM row start dof K ow cs dm n) (t1 : ∀ x, x < cs n - n → row' x = row x) (t3 : ∀ x, x < cs n - n → dof' x = dof x) (t5 : ∀ d, d ≤ n → start' d = start d) : LibM row' start' dof' K ow cs dm n :=
  ⟨h.1, h.2.1, fun x hx => by rw [t1 x hx]; exact h.2.2.1 x hx, fun x hx => by rw [t3 x hx]; exact h.2.2.2.1 x hx, fun d hd => by rw [t5 d hd]; exact h.2.2.2.2 d hd⟩
theorem HitC_zero {wh zk : Nat → Int32} {K ow cs sk : Nat → Nat} {n : Nat} : HitC (nI 0) (nI 0) wh zk K ow cs sk n 0 := by
  have hz : ∀ p, std K (cs n) sk 0 p = false := by
    intro p
    unfold std
    simp only [decide_eq_false_iff_not]
    omega
  refine ⟨?_, fun p hp hs => ?_, 0, rfl, by omega, fun _ => 0, fun i hi => by omega, fun i j _ hj => by omega, fun v => ⟨fun ⟨i, hi, _⟩ => by omega, fun ⟨e, he, e2, _⟩ => ?_⟩⟩
  · rw [cnt_none (fun j _ => hz j)]
  · rw [hz p] at hs
    exact absurd hs (by simp)
  · unfold oft at e2
    rw [cnt_none (n := cs (e + 1)) (fun j _ => hz j)] at e2
    omega
theorem SeI_zero {wh nh nl zk : Nat → Int32} {K ow cs sf : Nat → Nat} {ni : Nat} : SeI 0 0 0 (-1) wh nh nl zk K ow cs sf ni 0 := ⟨HitC_zero, Or.inl rfl, Or.inl rfl⟩
theorem RowI_zero {b mb : Nat → Int32} {cap : Nat} {f : Nat → Nat} : RowI 0 b 0 mb 0 f cap := ⟨rfl, rfl, Nat.zero_le _, fun i hi => by omega, fun i hi => by omega, fun i hi => by omega⟩
/-! cases -/
theorem c_feed {L : Nat} {xs : Nat → Int32} {K23 : Int32 → Int32 → (Nat → Int32) → Int32 → (Nat → Int32) → Int32 → Int32 → (Nat → Int32) → (Nat → Int32) → (Nat → Int32) → Int32 → Int32 → Int32 → Int32 → (Nat → Int32) → (Nat → Int32) → (Nat → Int32) → (Nat → Int64) → Int32 → (Nat → Int32) → (Nat → Int32) → (Nat → Int32) → Int32 → Int32 → Int32 → Int32 → Int32 → (Nat → Int32) → (Nat → Int32) → (Nat → Int32) → (Nat → Int32) → (Nat → Int32) → Int32 → Int32 → Int32 → Int32 → (Nat → Int32) → (Nat → Int32) → Int32 → Int32 → (Nat → Int64) → (Nat → Int32) → Int32 → Int32 → Int32 → Int32 → Int32 → Int32 → Int32 → Int32 → Int32 → (Nat → Int32) → (Nat → Int32) → (Nat → Int32) → (Nat → Int32) → (Nat → Int32) → (Nat → Int32) → (Nat → Int32) → (Nat → Int32) → (Nat → Int32) → (Nat → Int32) → (Nat → Int32) → (Nat → Int32) → (Nat → Int32) → (Nat → Int64) → Prop} {i : Nat} (hi : 6 * i + 6 ≤ L) (hL : L ≤ 3072) {z_p1_tape_length : Int32} {z_p1_tape_bytes : Nat → Int32} {z_p1_told_length : Int32} {z_p1_told_bytes : Nat → Int32} {z_p1_library_documents : Int32} {z_p1_library_indexed : Int32} {z_p1_library_text : Nat → Int32} {z_p1_library_owners : Nat → Int32} {z_p1_library_starts : Nat → Int32} {z_p1_order_first : Int32} {z_p1_order_size : Int32} {z_p1_order_locatedRank : Int32} {z_p1_order_locatedLength : Int32} {z_p1_order_sorted : Nat → Int32} {z_p1_order_ranks : Nat → Int32} {z_p1_order_alikeBefore : Nat → Int32} {z_p1_order_piecesUpTo : Nat → Int64} {z_p1_order_sorter_size : Int32} {z_p1_order_sorter_byTail : Nat → Int32} {z_p1_order_sorter_newRanks : Nat → Int32} {z_p1_order_sorter_tally : Nat → Int32} {z_p1_search_hits : Int32} {z_p1_search_documentsHit : Int32} {z_p1_search_nearKnown : Int32} {z_p1_search_matchedSum : Int32} {z_p1_search_sought_length : Int32} {z_p1_search_sought_bytes : Nat → Int32} {z_p1_search_wheres : Nat → Int32} {z_p1_search_nearHits : Nat → Int32} {z_p1_search_nearLast : Nat → Int32} {z_p1_search_documentKeys : Nat → Int32} {z_p1_window_bestPosition : Int32} {z_p1_window_bestLength : Int32} {z_p1_window_leastFrom : Int32} {z_p1_window_leastTo : Int32} {z_p1_window_inside : Nat → Int32} {z_p1_window_least : Nat → Int32} {z_p1_phraseBook_earlierLength : Int32} {z_p1_phraseBook_earlierPosition : Int32} {z_p1_phraseBook_answers : Nat → Int64} {z_p1_phraseBook_amounts : Nat → Int32} {z_p2_thrown : Int32} {z_p2_size : Int32} {z_p2_outSize : Int32} {z_p2_soughtSize : Int32} {z_p2_documents : Int32} {z_p2_indexed : Int32} {z_p2_suffixes : Int32} {z_p2_rows : Int32} {z_p2_lesser : Int32} {z_p2_tape : Nat → Int32} {z_p2_row : Nat → Int32} {z_p2_out : Nat → Int32} {z_p2_sought : Nat → Int32} {z_p2_start : Nat → Int32} {z_p2_documentOf : Nat → Int32} {z_p2_order : Nat → Int32} {z_p2_rankOf : Nat → Int32} {z_p2_same : Nat → Int32} {z_p2_work : Nat → Int32} {z_p2_next : Nat → Int32} {z_p2_often : Nat → Int32} {z_p2_has : Nat → Int32} {z_p3 : Nat → Int64} (hI : Inv z_p1_tape_length z_p1_tape_bytes z_p1_told_length z_p1_told_bytes z_p1_library_documents z_p1_library_indexed z_p1_library_text z_p1_library_owners z_p1_library_starts z_p1_order_first z_p1_order_size z_p1_order_locatedRank z_p1_order_locatedLength z_p1_order_sorted z_p1_order_ranks z_p1_order_alikeBefore z_p1_order_piecesUpTo z_p1_order_sorter_size z_p1_order_sorter_byTail z_p1_order_sorter_newRanks z_p1_order_sorter_tally z_p1_search_hits z_p1_search_documentsHit z_p1_search_nearKnown z_p1_search_matchedSum z_p1_search_sought_length z_p1_search_sought_bytes z_p1_search_wheres z_p1_search_nearHits z_p1_search_nearLast z_p1_search_documentKeys z_p1_window_bestPosition z_p1_window_bestLength z_p1_window_leastFrom z_p1_window_leastTo z_p1_window_inside z_p1_window_least z_p1_phraseBook_earlierLength z_p1_phraseBook_earlierPosition z_p1_phraseBook_answers z_p1_phraseBook_amounts z_p2_thrown z_p2_size z_p2_outSize z_p2_soughtSize z_p2_documents z_p2_indexed z_p2_suffixes z_p2_rows z_p2_lesser z_p2_tape z_p2_row z_p2_out z_p2_sought z_p2_start z_p2_documentOf z_p2_order z_p2_rankOf z_p2_same z_p2_work z_p2_next z_p2_often z_p2_has z_p3) (hK : ∀ {z_p1_tape_length' : Int32} {z_p1_tape_bytes' : Nat → Int32} {z_p1_told_length' : Int32} {z_p1_told_bytes' : Nat → Int32} {z_p1_library_documents' : Int32} {z_p1_library_indexed' : Int32} {z_p1_library_text' : Nat → Int32} {z_p1_library_owners' : Nat → Int32} {z_p1_library_starts' : Nat → Int32} {z_p1_order_first' : Int32} {z_p1_order_size' : Int32} {z_p1_order_locatedRank' : Int32} {z_p1_order_locatedLength' : Int32} {z_p1_order_sorted' : Nat → Int32} {z_p1_order_ranks' : Nat → Int32} {z_p1_order_alikeBefore' : Nat → Int32} {z_p1_order_piecesUpTo' : Nat → Int64} {z_p1_order_sorter_size' : Int32} {z_p1_order_sorter_byTail' : Nat → Int32} {z_p1_order_sorter_newRanks' : Nat → Int32} {z_p1_order_sorter_tally' : Nat → Int32} {z_p1_search_hits' : Int32} {z_p1_search_documentsHit' : Int32} {z_p1_search_nearKnown' : Int32} {z_p1_search_matchedSum' : Int32} {z_p1_search_sought_length' : Int32} {z_p1_search_sought_bytes' : Nat → Int32} {z_p1_search_wheres' : Nat → Int32} {z_p1_search_nearHits' : Nat → Int32} {z_p1_search_nearLast' : Nat → Int32} {z_p1_search_documentKeys' : Nat → Int32} {z_p1_window_bestPosition' : Int32} {z_p1_window_bestLength' : Int32} {z_p1_window_leastFrom' : Int32} {z_p1_window_leastTo' : Int32} {z_p1_window_inside' : Nat → Int32} {z_p1_window_least' : Nat → Int32} {z_p1_phraseBook_earlierLength' : Int32} {z_p1_phraseBook_earlierPosition' : Int32} {z_p1_phraseBook_answers' : Nat → Int64} {z_p1_phraseBook_amounts' : Nat → Int32} {z_p2_thrown' : Int32} {z_p2_size' : Int32} {z_p2_outSize' : Int32} {z_p2_soughtSize' : Int32} {z_p2_documents' : Int32} {z_p2_indexed' : Int32} {z_p2_suffixes' : Int32} {z_p2_rows' : Int32} {z_p2_lesser' : Int32} {z_p2_tape' : Nat → Int32} {z_p2_row' : Nat → Int32} {z_p2_out' : Nat → Int32} {z_p2_sought' : Nat → Int32} {z_p2_start' : Nat → Int32} {z_p2_documentOf' : Nat → Int32} {z_p2_order' : Nat → Int32} {z_p2_rankOf' : Nat → Int32} {z_p2_same' : Nat → Int32} {z_p2_work' : Nat → Int32} {z_p2_next' : Nat → Int32} {z_p2_often' : Nat → Int32} {z_p2_has' : Nat → Int32} {z_p3' : Nat → Int64}, Inv z_p1_tape_length' z_p1_tape_bytes' z_p1_told_length' z_p1_told_bytes' z_p1_library_documents' z_p1_library_indexed' z_p1_library_text' z_p1_library_owners' z_p1_library_starts' z_p1_order_first' z_p1_order_size' z_p1_order_locatedRank' z_p1_order_locatedLength' z_p1_order_sorted' z_p1_order_ranks' z_p1_order_alikeBefore' z_p1_order_piecesUpTo' z_p1_order_sorter_size' z_p1_order_sorter_byTail' z_p1_order_sorter_newRanks' z_p1_order_sorter_tally' z_p1_search_hits' z_p1_search_documentsHit' z_p1_search_nearKnown' z_p1_search_matchedSum' z_p1_search_sought_length' z_p1_search_sought_bytes' z_p1_search_wheres' z_p1_search_nearHits' z_p1_search_nearLast' z_p1_search_documentKeys' z_p1_window_bestPosition' z_p1_window_bestLength' z_p1_window_leastFrom' z_p1_window_leastTo' z_p1_window_inside' z_p1_window_least' z_p1_phraseBook_earlierLength' z_p1_phraseBook_earlierPosition' z_p1_phraseBook_answers' z_p1_phraseBook_amounts' z_p2_thrown' z_p2_size' z_p2_outSize' z_p2_soughtSize' z_p2_documents' z_p2_indexed' z_p2_suffixes' z_p2_rows' z_p2_lesser' z_p2_tape' z_p2_row' z_p2_out' z_p2_sought' z_p2_start' z_p2_documentOf' z_p2_order' z_p2_rankOf' z_p2_same' z_p2_work' z_p2_next' z_p2_often' z_p2_has' z_p3' → K23 (nI (6 * i) + 6) z_p1_tape_length' z_p1_tape_bytes' z_p1_told_length' z_p1_told_bytes' z_p1_library_documents' z_p1_library_indexed' z_p1_library_text' z_p1_library_owners' z_p1_library_starts' z_p1_order_first' z_p1_order_size' z_p1_order_locatedRank' z_p1_order_locatedLength' z_p1_order_sorted' z_p1_order_ranks' z_p1_order_alikeBefore' z_p1_order_piecesUpTo' z_p1_order_sorter_size' z_p1_order_sorter_byTail' z_p1_order_sorter_newRanks' z_p1_order_sorter_tally' z_p1_search_hits' z_p1_search_documentsHit' z_p1_search_nearKnown' z_p1_search_matchedSum' z_p1_search_sought_length' z_p1_search_sought_bytes' z_p1_search_wheres' z_p1_search_nearHits' z_p1_search_nearLast' z_p1_search_documentKeys' z_p1_window_bestPosition' z_p1_window_bestLength' z_p1_window_leastFrom' z_p1_window_leastTo' z_p1_window_inside' z_p1_window_least' z_p1_phraseBook_earlierLength' z_p1_phraseBook_earlierPosition' z_p1_phraseBook_answers' z_p1_phraseBook_amounts' z_p2_thrown' z_p2_size' z_p2_outSize' z_p2_soughtSize' z_p2_documents' z_p2_indexed' z_p2_suffixes' z_p2_rows' z_p2_lesser' z_p2_tape' z_p2_row' z_p2_out' z_p2_sought' z_p2_start' z_p2_documentOf' z_p2_order' z_p2_rankOf' z_p2_same' z_p2_work' z_p2_next' z_p2_often' z_p2_has' z_p3') : vc_LW_law_148 L xs K23 (nI (6 * i)) z_p1_tape_length z_p1_tape_bytes z_p1_told_length z_p1_told_bytes z_p1_library_documents z_p1_library_indexed z_p1_library_text z_p1_library_owners z_p1_library_starts z_p1_order_first z_p1_order_size z_p1_order_locatedRank z_p1_order_locatedLength z_p1_order_sorted z_p1_order_ranks z_p1_order_alikeBefore z_p1_order_piecesUpTo z_p1_order_sorter_size z_p1_order_sorter_byTail z_p1_order_sorter_newRanks z_p1_order_sorter_tally z_p1_search_hits z_p1_search_documentsHit z_p1_search_nearKnown z_p1_search_matchedSum z_p1_search_sought_length z_p1_search_sought_bytes z_p1_search_wheres z_p1_search_nearHits z_p1_search_nearLast z_p1_search_documentKeys z_p1_window_bestPosition z_p1_window_bestLength z_p1_window_leastFrom z_p1_window_leastTo z_p1_window_inside z_p1_window_least z_p1_phraseBook_earlierLength z_p1_phraseBook_earlierPosition z_p1_phraseBook_answers z_p1_phraseBook_amounts z_p2_thrown z_p2_size z_p2_outSize z_p2_soughtSize z_p2_documents z_p2_indexed z_p2_suffixes z_p2_rows z_p2_lesser z_p2_tape z_p2_row z_p2_out z_p2_sought z_p2_start z_p2_documentOf z_p2_order z_p2_rankOf z_p2_same z_p2_work z_p2_next z_p2_often z_p2_has z_p3 := by
  have hI' := hI
  obtain ⟨tn, tf, on, of_, sn, sf, K, ow, cs, dm, nd, K0, ow0, cs0, dm0, sa, rk, ni, r1, r2, r3, lib, ix, se, ph⟩ := hI
  obtain ⟨a1, a2, a3, a4, a5, a6⟩ := r1
  unfold vc_LW_law_148 vc_LW_feed vc_MD_thrown
  refine ⟨x_in (k := 1) hi hL (by omega), x_in (k := 2) hi hL (by omega), x_in (k := 3) hi hL (by omega), x_in (k := 4) hi hL (by omega), x_in (k := 5) hi hL (by omega), ?_⟩
  subst a1 a2
  generalize xs (nI (6 * i) + 1).toNatClampNeg = w1
  generalize xs (nI (6 * i) + 2).toNatClampNeg = w2
  generalize xs (nI (6 * i) + 3).toNatClampNeg = w3
  generalize xs (nI (6 * i) + 4).toNatClampNeg = w4
  generalize xs (nI (6 * i) + 5).toNatClampNeg = w5
  refine s_feed a3 (fun q => ⟨fun _ => ?_, fun g => absurd rfl g⟩) (fun q bz' b1 b2 => ⟨vp0, ?_⟩)
  · refine ⟨x_in (k := 1) hi hL (by omega), x_in (k := 2) hi hL (by omega), x_in (k := 3) hi hL (by omega), x_in (k := 4) hi hL (by omega), x_in (k := 5) hi hL (by omega), ?_⟩
    exact m_feed a3 (fun _ => fin_thr (by decide) (hK hI')) (fun q2 => by omega)
  · refine ⟨x_in (k := 1) hi hL (by omega), x_in (k := 2) hi hL (by omega), x_in (k := 3) hi hL (by omega), x_in (k := 4) hi hL (by omega), x_in (k := 5) hi hL (by omega), ?_⟩
    refine m_feed a3 (fun q2 => by omega) (fun _ tz' t1 t2 => fin_ok rfl (hK ⟨tn + 20, fun j => if j < tn then tf j else fv w1 w2 w3 w4 w5 (j - tn), on, of_, sn, sf, K, ow, cs, dm, nd, K0, ow0, cs0, dm0, sa, rk, ni, ⟨rfl, rfl, q, fun j hj => ?_, fun j hj => ?_, fun j hj => ?_⟩, r2, r3, lib, ix, se, ph⟩))
    · show 64 ≤ (if j < tn then tf j else _) ∧ (if j < tn then tf j else _) < 320
      by_cases g : j < tn
      · rw [if_pos g]; exact a4 j g
      · rw [if_neg g]; exact fv_b _ _ _ _ _ _
    · show _ = tx (if j < tn then tf j else _)
      by_cases g : j < tn
      · rw [if_pos g, b1 j g]; exact a5 j g
      · rw [if_neg g]
        have := b2 (j - tn) (by omega)
        rw [show tn + (j - tn) = j by omega] at this
        exact this
    · show _ = bs (if j < tn then tf j else _)
      by_cases g : j < tn
      · rw [if_pos g, t1 j g]; exact a6 j g
      · rw [if_neg g]
        have := t2 (j - tn) (by omega)
        rw [show tn + (j - tn) = j by omega] at this
        exact this
