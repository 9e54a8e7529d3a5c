/-! shared of the reference -/
theorem nar_b0 : vp_nar .boolean (0 : Int32) = nI 0 := by decide
theorem nar_b1 : vp_nar .boolean (1 : Int32) = nI 1 := by decide
theorem mn_step (ab : Nat → Nat) (l : Nat) {k k' : Nat} (h : k ≤ k') : mn ab l k' ≤ mn ab l k := by
  induction k' with
  | zero => rw [show k = 0 by omega]; exact Nat.le_refl _
  | succ k' ih =>
    by_cases e : k = k' + 1
    · rw [e]; exact Nat.le_refl _
    · have := ih (by omega)
      show min _ _ ≤ _
      omega
theorem m_shared {row start dof odz sz rz : Nat → Int32} {K ow cs dm sa rk : Nat → Nat} {n : Nat} (h : LibM row start dof K ow cs dm n) (hs : SAok K (cs n) sa rk) (ho : OrdM odz rz sz K ow cs dm n sa rk) {mz th on : Int32} {oz hz : Nat → Int32}
    {post : Int32 → Int32 → Int32 → (Nat → Int32) → (Nat → Int32) → Prop}
    (hbad : (∀ m : Nat, 2 ≤ m → m ≤ 64 → mz ≠ nI m) → post 0 1 on oz hz)
    (hgood : ∀ m : Nat, 2 ≤ m → m ≤ 64 → mz = nI m → ∀ oz' hz', (∀ i, i < bl (Cg (hdoc (fun r => ow (sa r))) (LL K (cs n) sa) n (cs n) m) (cs n - n) → oz' i = bs (K (sa (n + bp (Cg (hdoc (fun r => ow (sa r))) (LL K (cs n) sa) n (cs n) m) (cs n - n)) + i))) → post (nI (bl (Cg (hdoc (fun r => ow (sa r))) (LL K (cs n) sa) n (cs n) m) (cs n - n))) 0 (nI (bl (Cg (hdoc (fun r => ow (sa r))) (LL K (cs n) sa) n (cs n) m) (cs n - n))) oz' hz') :
    vc_MD_shared mz (nI (cs n - n)) row start dof odz sz post th on oz hz := by
  have hd := h.1
  have hS := doc_S hd
  have hN := doc_N hd
  have h64 := hd.2.2.2.1
  have hnN : n ≤ cs n := by
    have := doc_mono hd (show 0 ≤ n by omega) (Nat.le_refl n)
    omega
  have bad : (∀ m : Nat, 2 ≤ m → m ≤ 64 → mz ≠ nI m) → vc_MD_shared_18 mz (nI (cs n - n)) row start dof odz sz post 1 0 on oz hz := by
    intro g
    unfold vc_MD_shared_18 vc_MD_shared_23
    exact m_no ⟨fun e => absurd e (by decide), fun _ => hbad g⟩
  have good : ∀ m : Nat, 2 ≤ m → m ≤ 64 → mz = nI m → vc_MD_shared_23 mz (nI (cs n - n)) row start dof odz sz post 1 0 0 on oz hz := by
    intro m m1 m2 em
    subst em
    have hgood' := hgood m m1 m2 rfl
    generalize hCdef : Cg (hdoc (fun r => ow (sa r))) (LL K (cs n) sa) n (cs n) m = C at hgood'
    have hCl : ∀ i, 0 < C i → n + i + 1 < cs n ∧ C i ≤ LL K (cs n) sa (n + i + 1) := fun i hi => by rw [← hCdef] at hi ⊢; exact Cg_le hi
    have hH := Held_doc (fun r => ow (sa r))
    have hCat : ∀ l r, n ≤ l → l < r → r < cs n → hdoc (fun r => ow (sa r)) l r < m → m ≤ hdoc (fun r => ow (sa r)) l (r + 1) → C (l - n) = mn (LL K (cs n) sa) l (r - l) := fun l r a1 a2 a3 a4 a5 => by rw [← hCdef]; exact Cg_at hH a1 a2 a3 a4 a5
    have hC0 : ∀ l, n ≤ l → l ≤ cs n → hdoc (fun r => ow (sa r)) l (cs n) < m → C (l - n) = 0 := fun l a1 a2 a3 => by rw [← hCdef]; exact Cg_zero hH a1 a2 a3
    -- what is held by few: the candidate is no more than what all up to there have
    have hCle : ∀ l r, n ≤ l → l < r → r ≤ cs n → hdoc (fun r => ow (sa r)) l r < m → C (l - n) ≤ mn (LL K (cs n) sa) l (r - 1 - l) ∧ (r < cs n → C (l - n) ≤ mn (LL K (cs n) sa) l (r - l)) := by
      intro l r a1 a2 a3 a4
      by_cases q : hdoc (fun r => ow (sa r)) l (cs n) < m
      · rw [hC0 l a1 (by omega) q]
        exact ⟨Nat.zero_le _, fun _ => Nat.zero_le _⟩
      · -- the first right border is not before r
        have ex : ∃ r', r ≤ r' ∧ r' < cs n ∧ hdoc (fun r => ow (sa r)) l r' < m ∧ m ≤ hdoc (fun r => ow (sa r)) l (r' + 1) := by
          have key : ∀ k, r + k ≤ cs n → (∃ r', r ≤ r' ∧ r' < r + k ∧ hdoc (fun r => ow (sa r)) l r' < m ∧ m ≤ hdoc (fun r => ow (sa r)) l (r' + 1)) ∨ hdoc (fun r => ow (sa r)) l (r + k) < m := by
            intro k
            induction k with
            | zero => intro _; exact Or.inr a4
            | succ k ih =>
              intro hk
              rcases ih (by omega) with ⟨r', b1, b2, b3, b4⟩ | b
              · exact Or.inl ⟨r', b1, by omega, b3, b4⟩
              · by_cases c : hdoc (fun r => ow (sa r)) l (r + k + 1) < m
                · exact Or.inr c
                · exact Or.inl ⟨r + k, by omega, by omega, b, by omega⟩
          rcases key (cs n - r) (by omega) with ⟨r', b1, b2, b3, b4⟩ | b
          · exact ⟨r', b1, by omega, b3, b4⟩
          · rw [show r + (cs n - r) = cs n by omega] at b
            exact absurd b q
        obtain ⟨r', b1, b2, b3, b4⟩ := ex
        rw [hCat l r' a1 (by omega) b2 b3 b4]
        exact ⟨mn_step _ _ (by omega), fun _ => mn_step _ _ (by omega)⟩
    have hblb : ∀ k, bl C k < 20000 := by
      intro k
      by_cases q : bl C k = 0
      · omega
      · have a := bl_at (C := C) k (by omega)
        have b := hCl (bp C k) (by omega)
        have := LL_lt hd hs b.1
        omega
    -- places in order
    have hord : ∀ i, i < cs n - n → odz i = nI (sa (n + i) - ow (sa (n + i))) ∧ sa (n + i) - ow (sa (n + i)) < cs n - n ∧ dof (sa (n + i) - ow (sa (n + i))) = nI (ow (sa (n + i))) ∧ ow (sa (n + i)) < 64 ∧ dm (sa (n + i) - ow (sa (n + i))) = ow (sa (n + i)) ∧ sa (n + i) < cs n := by
      intro i hi
      have s1 := hs.1 (n + i) (by omega)
      have mk := SA_mark_iff hd hs (show n + i < cs n by omega)
      have e := dm_of hd h.2.1 s1.1 (by omega)
      refine ⟨ho.1 i hi, e.1, ?_, ?_, e.2.1, s1.1⟩
      · rw [h.2.2.2.1 _ e.1, e.2.1]
      · have := (doc_at hd s1.1).1
        omega
    have key : ∀ f i at_ hz, i + f = cs n - n → (at_ = if bl C i = 0 then nI 0 else nI (sa (n + bp C i) - ow (sa (n + bp C i)))) →
        vc_MD_shared_38 (nI m) (nI (cs n - n)) row start dof odz sz post (f + 1) (nI (bl C i)) at_ (nI i) 0 on oz hz := by
      intro f
      induction f with
      | zero =>
        intro i at_ hz hi hat
        rw [vc_MD_shared_38, nI_leI (by omega) (by omega)]
        have ei : i = cs n - n := by omega
        subst ei
        exact ⟨fun _ => m_best h hs hCl hat (fun oz' hoz => hgood' oz' hz hoz), fun q => absurd (Nat.le_refl _) q⟩
      | succ f ih =>
        intro i at_ hz hi hat
        have ilt : i < cs n - n := by omega
        have hb := hblb i
        have oi := hord i ilt
        rw [vc_MD_shared_38, nI_leI (by omega) (by omega)]
        refine ⟨fun q => by omega, fun _ => ⟨65, ?_⟩⟩
        -- on to the next left border
        have keep : ∀ hz, C i ≤ bl C i → vc_MD_shared_227 (nI m) (nI (cs n - n)) row start dof odz sz post (fun x2' x3' x4' z_thrown' z_outSize' z_out' z_has' => vc_MD_shared_38 (nI m) (nI (cs n - n)) row start dof odz sz post (f + 1) x2' x3' x4' z_thrown' z_outSize' z_out' z_has') (nI (bl C i)) at_ (nI i) 0 on oz hz := by
          intro hz c
          unfold vc_MD_shared_227
          rw [nI_1]
          have e1 : bl C (i + 1) = bl C i := by
            show (if _ < _ then _ else _) = _
            rw [if_neg (by omega)]
          have e2 : bp C (i + 1) = bp C i := by
            show (if _ < _ then _ else _) = _
            rw [if_neg (by omega)]
          have := ih (i + 1) at_ hz (by omega) (by rw [e1, e2]; exact hat)
          rw [e1] at this
          exact this
        have take : ∀ hz, bl C i < C i → vc_MD_shared_227 (nI m) (nI (cs n - n)) row start dof odz sz post (fun x2' x3' x4' z_thrown' z_outSize' z_out' z_has' => vc_MD_shared_38 (nI m) (nI (cs n - n)) row start dof odz sz post (f + 1) x2' x3' x4' z_thrown' z_outSize' z_out' z_has') (nI (C i)) (nI (sa (n + i) - ow (sa (n + i)))) (nI i) 0 on oz hz := by
          intro hz c
          unfold vc_MD_shared_227
          rw [nI_1]
          have e1 : bl C (i + 1) = C i := by
            show (if _ < _ then _ else _) = _
            rw [if_pos c]
          have e2 : bp C (i + 1) = i := by
            show (if _ < _ then _ else _) = _
            rw [if_pos c]
          have := ih (i + 1) (nI (sa (n + i) - ow (sa (n + i)))) hz (by omega) (by rw [e1, e2, if_neg (by omega)])
          rw [e1] at this
          exact this
        have hlen := lenf_le hd oi.2.2.2.2.2
        have key119 : ∀ g j hz, j + g = cs n - n → i < j → hdoc (fun r => ow (sa r)) (n + i) (n + j) < m → (∀ d, d < 64 → hz d = nI (if 0 < insd (fun r => ow (sa r)) (n + i) (n + j) d then 1 else 0)) →
            vc_MD_shared_119 (nI m) (nI (cs n - n)) row start dof odz sz post (fun x2' x3' x4' z_thrown' z_outSize' z_out' z_has' => vc_MD_shared_38 (nI m) (nI (cs n - n)) row start dof odz sz post (f + 1) x2' x3' x4' z_thrown' z_outSize' z_out' z_has') (g + 1) (nI (bl C i)) at_ (nI i) (nI (hdoc (fun r => ow (sa r)) (n + i) (n + j))) (nI (min (mn (LL K (cs n) sa) (n + i) (j - 1 - i)) (lenf ow cs (sa (n + i))))) (nI j) 0 on oz hz := by
          intro g
          have cle : ∀ j, i < j → j ≤ cs n - n → hdoc (fun r => ow (sa r)) (n + i) (n + j) < m → C i ≤ mn (LL K (cs n) sa) (n + i) (j - 1 - i) ∧ (j < cs n - n → C i ≤ mn (LL K (cs n) sa) (n + i) (j - i)) := by
            intro j j1 j2 j3
            have := hCle (n + i) (n + j) (by omega) (by omega) (by omega) j3
            rw [Nat.add_sub_cancel_left, show n + j - 1 - (n + i) = j - 1 - i by omega, show n + j - (n + i) = j - i by omega] at this
            exact ⟨this.1, fun c => this.2 (by omega)⟩
          induction g with
          | zero =>
            intro j hz hj hij hh hhz
            rw [vc_MD_shared_119, nI_leI (by omega) (by omega)]
            refine ⟨fun _ => keep hz ?_, fun q => absurd (by omega) q⟩
            have e0 := hC0 (n + i) (by omega) (by omega) (by rw [show cs n = n + j by omega]; exact hh)
            rw [Nat.add_sub_cancel_left] at e0
            omega
          | succ g ih2 =>
            intro j hz hj hij hh hhz
            have jlt : j < cs n - n := by omega
            have oj := hord j jlt
            have lj := LL_lt hd hs (show n + j < cs n by omega)
            have cl := cle j hij (by omega) hh
            have cb : C i ≤ lenf ow cs (sa (n + i)) := by
              by_cases q : 0 < C i
              · have := hCl i q
                have s1 := hs.1 (n + i + 1) this.1
                have ll := (lcp_len hd oi.2.2.2.2.2 s1.1 (fun e => by have := SA_inj hs (by omega) this.1 e; omega)).1
                rw [← LL_succ] at ll
                omega
              · omega
            have hhb := held_le hH (show n + i ≤ n + j by omega)
            have emin : min (min (mn (LL K (cs n) sa) (n + i) (j - 1 - i)) (lenf ow cs (sa (n + i)))) (LL K (cs n) sa (n + j)) = min (mn (LL K (cs n) sa) (n + i) (j - i)) (lenf ow cs (sa (n + i))) := by
              rw [show j - i = j - 1 - i + 1 by omega]
              show _ = min (min _ (LL K (cs n) sa (n + i + (j - 1 - i) + 1))) _
              rw [show n + i + (j - 1 - i) + 1 = n + j by omega]
              omega
            rw [vc_MD_shared_119, nI_leI (by omega) (by omega), nI_leI (by omega) (by omega), nI_clamp (by omega), ho.2.2 j jlt, nI_minI (by omega) (by omega), emin]
            refine ⟨fun q => by omega, fun _ => ⟨fun q => keep hz (by omega), fun q => ⟨(vpI (by omega)).mpr (by omega), ?_⟩⟩⟩
            rw [nI_ltI (by omega) (by omega)]
            refine ⟨fun q2 => ?_, fun q2 => keep hz (by have := cl.2 jlt; omega)⟩
            unfold vc_MD_shared_221
            rw [oj.1, nI_clamp (by omega), oj.2.2.1, nI_clamp (by omega), hhz _ oj.2.2.2.1, nar_b1, nI_clamp (by omega), oi.1, nI_1, nI_1]
            have er := hdoc_r (fun r => ow (sa r)) (show n + i ≤ n + j by omega)
            have hin : ∀ d, insd (fun r => ow (sa r)) (n + i) (n + j + 1) d = insd (fun r => ow (sa r)) (n + i) (n + j) d + (if ow (sa (n + j)) = d then 1 else 0) := insd_r _ (by omega)
            refine ⟨(vpI (by omega)).mpr (by omega), (vpI (by omega)).mpr (by omega), (vpI (by omega)).mpr (by omega), fun q3 => ⟨(vpI (by omega)).mpr (by omega), (vpI (by omega)).mpr (by omega), (vpI (by omega)).mpr (by omega), ?_⟩, fun q3 => ?_⟩
            · -- a new document
              have z0 : insd (fun r => ow (sa r)) (n + i) (n + j) (ow (sa (n + j))) = 0 := by
                by_cases c : 0 < insd (fun r => ow (sa r)) (n + i) (n + j) (ow (sa (n + j)))
                · rw [if_pos c] at q3; exact absurd q3 (by decide)
                · omega
              rw [if_pos ⟨oj.2.2.2.1, z0⟩] at er
              have hhz' : ∀ d, d < 64 → upd hz (ow (sa (n + j))) (nI 1) d = nI (if 0 < insd (fun r => ow (sa r)) (n + i) (n + (j + 1)) d then 1 else 0) := by
                intro d hd'
                rw [show n + (j + 1) = n + j + 1 by omega, hin d]
                by_cases e : d = ow (sa (n + j))
                · rw [e, upS, if_pos rfl, if_pos (by omega)]
                · rw [upN e, if_neg (Ne.symm e), Nat.add_zero]; exact hhz d hd'
              rw [nI_leI (by omega) (by omega)]
              refine ⟨fun q4 => ⟨(vpI (by omega)).mpr (by omega), ?_⟩, fun q4 => ?_⟩
              · -- enough: the next step ends
                have hCi := hCat (n + i) (n + j) (by omega) (by omega) (by omega) hh (by rw [er]; exact q4)
                rw [Nat.add_sub_cancel_left, show n + j - (n + i) = j - i by omega] at hCi
                have ev : min (mn (LL K (cs n) sa) (n + i) (j - i)) (lenf ow cs (sa (n + i))) = C i := by omega
                rw [ev]
                have q2' : bl C i < C i := by omega
                dsimp only
                rw [vc_MD_shared_119, nI_leI (by omega) (by omega), nI_leI (by omega) (by omega)]
                exact ⟨fun _ => take _ q2', fun _ => ⟨fun _ => take _ q2', fun c => absurd (Nat.le_refl _) c⟩⟩
              · have := ih2 (j + 1) _ (by omega) (by omega) (by rw [show n + (j + 1) = n + j + 1 by omega, er]; omega) hhz'
                rw [show n + (j + 1) = n + j + 1 by omega, er, show j + 1 - 1 - i = j - i by omega] at this
                exact this
            · have p0 : 0 < insd (fun r => ow (sa r)) (n + i) (n + j) (ow (sa (n + j))) := by
                by_cases c : 0 < insd (fun r => ow (sa r)) (n + i) (n + j) (ow (sa (n + j)))
                · exact c
                · rw [if_neg c] at q3; exact absurd rfl q3
              rw [if_neg (fun c => by have c2 : insd (fun r => ow (sa r)) (n + i) (n + j) (ow (sa (n + j))) = 0 := c.2; omega), Nat.add_zero] at er
              have hhz' : ∀ d, d < 64 → hz d = nI (if 0 < insd (fun r => ow (sa r)) (n + i) (n + (j + 1)) d then 1 else 0) := by
                intro d hd'
                rw [show n + (j + 1) = n + j + 1 by omega, hin d, hhz d hd']
                by_cases e : ow (sa (n + j)) = d
                · rw [← e, if_pos rfl, if_pos p0, if_pos (by omega)]
                · rw [if_neg e, Nat.add_zero]
              have := ih2 (j + 1) hz (by omega) (by omega) (by rw [show n + (j + 1) = n + j + 1 by omega, er]; exact hh) hhz'
              rw [show n + (j + 1) = n + j + 1 by omega, er, show j + 1 - 1 - i = j - i by omega] at this
              exact this
        have key50 : ∀ g x hz, x + g = 64 → (∀ d, d < x → hz d = nI 0) → vc_MD_shared_50 (nI m) (nI (cs n - n)) row start dof odz sz post (fun x2' x3' x4' z_thrown' z_outSize' z_out' z_has' => vc_MD_shared_38 (nI m) (nI (cs n - n)) row start dof odz sz post (f + 1) x2' x3' x4' z_thrown' z_outSize' z_out' z_has') (g + 1) (nI (bl C i)) at_ (nI i) (nI x) 0 on oz hz := by
          intro g
          induction g with
          | zero =>
            intro x hz hx hhz
            rw [vc_MD_shared_50, li64, nI_leI (by omega) (by omega)]
            refine ⟨fun _ => ?_, fun q => absurd (by omega) q⟩
            rw [nI_clamp (by omega), oi.1, nI_clamp (by omega), oi.2.2.1, nI_clamp (by omega), nar_b1]
            refine ⟨(vpI (by omega)).mpr (by omega), (vpI (by omega)).mpr (by omega), (vpI (by omega)).mpr (by omega), (vpI (by omega)).mpr (by omega), m_endOf h oi.2.1 ⟨(vpI (by omega)).mpr (by omega), cs n - n - (i + 1) + 1, ?_⟩⟩
            have ecp : sa (n + i) - ow (sa (n + i)) + dm (sa (n + i) - ow (sa (n + i))) = sa (n + i) := by
              rw [oi.2.2.2.2.1]
              have := doc_ow_le hd oi.2.2.2.2.2
              omega
            rw [ecp, nI_subI (by omega), Nat.add_sub_cancel_left, nI_1]
            have e1 := hdoc_r (fun r => ow (sa r)) (Nat.le_refl (n + i))
            have ez : ∀ d, insd (fun r => ow (sa r)) (n + i) (n + i) d = 0 := fun d => by unfold insd; omega
            rw [hH.1, if_pos ⟨oi.2.2.2.1, ez _⟩] at e1
            have := key119 (cs n - n - (i + 1)) (i + 1) (upd hz (ow (sa (n + i))) (nI 1)) (by omega) (by omega) (by rw [show n + (i + 1) = n + i + 1 by omega, e1]; omega) (fun d hd' => ?_)
            · rw [show n + (i + 1) = n + i + 1 by omega, e1, show i + 1 - 1 - i = 0 by omega] at this
              rw [show min (mn (LL K (cs n) sa) (n + i) 0) (lenf ow cs (sa (n + i))) = lenf ow cs (sa (n + i)) from Nat.min_eq_right (show lenf ow cs (sa (n + i)) ≤ 100000 by omega)] at this
              exact this
            · have hin := insd_r (fun r => ow (sa r)) (Nat.le_refl (n + i)) d
              rw [show n + (i + 1) = n + i + 1 by omega, hin, ez d, Nat.zero_add]
              by_cases e : d = ow (sa (n + i))
              · rw [e, upS, if_pos rfl, if_pos (by omega)]
              · rw [upN e, if_neg (Ne.symm e), if_neg (by omega)]
                exact hhz d (by omega)
          | succ g ih2 =>
            intro x hz hx hhz
            rw [vc_MD_shared_50, li64, nI_leI (by omega) (by omega), nI_clamp (n := x) (by omega), nar_b0, nI_1 x]
            refine ⟨fun q => by omega, fun _ => ⟨(vpI (by omega)).mpr (by omega), ih2 (x + 1) _ (by omega) (fun d hd' => ?_)⟩⟩
            by_cases e : d = x
            · rw [e, upS]
            · rw [upN e]; exact hhz d (by omega)
        exact key50 64 0 hz (by omega) (fun d hd' => by omega)
    unfold vc_MD_shared_23
    exact m_ok ⟨fun _ => ⟨cs n - n + 1, key (cs n - n) 0 (nI 0) hz (by omega) rfl⟩, fun g => absurd rfl g⟩
  unfold vc_MD_shared
  rcases nI_cases mz with g | ⟨j, hj, e⟩
  · refine ⟨fun _ => bad (fun m _ _ => neg_ne g (by omega)), fun c => absurd ?_ c⟩
    rw [Int32.lt_iff_toInt_lt] at g ⊢
    have e0 : (0 : Int32).toInt = 0 := by decide
    have e2 : (2 : Int32).toInt = 2 := by decide
    rw [e0] at g
    rw [e2]
    omega
  · subst e
    have e1 : nI j < 2 ↔ j < 2 := nI_ltI (a := j) (b := 2) (by omega) (by omega)
    have e2 : nI j ≤ 64 ↔ j ≤ 64 := nI_leI (a := j) (b := 64) (by omega) (by omega)
    rw [e1, e2]
    have nb : (j < 2 ∨ 64 < j) → ∀ m : Nat, 2 ≤ m → m ≤ 64 → nI j ≠ nI m := by
      intro c m m1 m2 e
      rw [nI_eq (by omega) (by omega)] at e
      omega
    exact ⟨fun c => bad (nb (Or.inl c)), fun c => ⟨fun c2 => good j (by omega) c2 rfl, fun c2 => bad (nb (Or.inr (by omega)))⟩⟩
