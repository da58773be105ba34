-- ===== the class: what foes do =====
theorem sNth_low {a b : Nat} (hb : a.testBit b = true) (hl : ∀ j, j < b → a.testBit j = false) : ∀ f k, k ≤ b → b < k + f → sNth a f k 0 = some b
  | 0, k, h1, h2 => by omega
  | f + 1, k, h1, h2 => by
    rw [sNth]
    by_cases c : k = b
    · subst c
      rw [if_pos hb, if_pos rfl]
    · rw [if_neg (by rw [hl k (by omega)]; decide)]
      exact sNth_low hb hl f (k + 1) (by omega) (by omega)
theorem sNth_0 : ∀ f k l, sNth 0 f k l = none
  | 0, _, _ => rfl
  | f + 1, k, l => by
    rw [sNth, if_neg (by rw [Nat.zero_testBit]; decide)]
    exact sNth_0 f (k + 1) l
/-- the kept move of those below n is the first of the best, of the worst, or the first -/
theorem sFm_ok {g : zg} {p kd b : Nat} : ∀ n, sFm g p kd n = some b → (sCan g p b = true ∧ b < n) ∧ (kd = 109 → (∀ j, j < n → sCan g p j = true → sWth g (sVal g) p j ≤ sWth g (sVal g) p b) ∧ ∀ j, j < b → sCan g p j = true → sWth g (sVal g) p j < sWth g (sVal g) p b) ∧ (kd ≠ 109 → kd ≠ 116 → ∀ j, j < b → sCan g p j = false)
  | 0, h => by cases h
  | n + 1, h => by
    have ih := fun b' => sFm_ok (g := g) (p := p) (kd := kd) (b := b') n
    have nn := sFm_some (g := g) (p := p) (kd := kd) n
    rw [sFm] at h
    by_cases c : sCan g p n = true
    · rw [if_pos c] at h
      cases e : sFm g p kd n with
      | none =>
        rw [e] at h
        injection h with h
        subst h
        have no : ∀ j, j < n → sCan g p j = false := fun j hj => by
          rw [Bool.eq_false_iff]
          intro z
          obtain ⟨b', hb'⟩ := nn j hj z
          rw [e] at hb'
          cases hb'
        refine ⟨⟨c, by omega⟩, fun _ => ⟨fun j hj hc => ?_, fun j hj hc => ?_⟩, fun _ _ j hj => no j hj⟩
        · by_cases w : j = n
          · rw [w]
            exact Nat.le_refl _
          · rw [no j (by omega)] at hc
            cases hc
        · rw [no j hj] at hc
          cases hc
      | some b' =>
        rw [e] at h
        dsimp only at h
        obtain ⟨⟨i1, i2⟩, i3, i4⟩ := ih b' e
        by_cases d : kd = 109 ∧ sWth g (sVal g) p b' < sWth g (sVal g) p n
        · rw [if_pos d] at h
          injection h with h
          subst h
          refine ⟨⟨c, by omega⟩, fun _ => ⟨fun j hj hc => ?_, fun j hj hc => ?_⟩, fun z => absurd d.1 z⟩
          · by_cases w : j = n
            · rw [w]
              exact Nat.le_refl _
            · have := (i3 d.1).1 j (by omega) hc
              omega
          · have := (i3 d.1).1 j hj hc
            omega
        · rw [if_neg d] at h
          by_cases d2 : kd = 116 ∧ sWth g (sVal g) p n < sWth g (sVal g) p b'
          · rw [if_pos d2] at h
            injection h with h
            subst h
            exact ⟨⟨c, by omega⟩, fun z => by omega, fun _ z => absurd d2.1 z⟩
          · rw [if_neg d2] at h
            injection h with h
            subst h
            refine ⟨⟨i1, by omega⟩, fun z => ⟨fun j hj hc => ?_, (i3 z).2⟩, i4⟩
            by_cases w : j = n
            · subst w
              have : ¬ sWth g (sVal g) p b' < sWth g (sVal g) p j := fun y => d ⟨z, y⟩
              omega
            · exact (i3 z).1 j (by omega) hc
    · rw [if_neg c] at h
      obtain ⟨⟨i1, i2⟩, i3, i4⟩ := ih b h
      refine ⟨⟨i1, by omega⟩, fun z => ⟨fun j hj hc => ?_, (i3 z).2⟩, i4⟩
      by_cases w : j = n
      · subst w
        exact absurd hc c
      · exact (i3 z).1 j (by omega) hc
theorem sFm_9 {g : zg} (hg : gOk g) (p kd : Nat) : sFm g p kd 9 = sFm g p kd (sMM g) := by
  have hmm := sMM_pos hg
  have key : ∀ j, sFm g p kd (sMM g + j) = sFm g p kd (sMM g) := by
    intro j
    induction j with
    | zero => rfl
    | succ j ih =>
      show (if sCan g p (sMM g + j) = true then _ else sFm g p kd (sMM g + j)) = _
      rw [if_neg, ih]
      intro z
      have := sCan_lt z
      omega
  have := key (9 - sMM g)
  rw [show sMM g + (9 - sMM g) = 9 by omega] at this
  exact this
theorem sNth_best {g : zg} (hg : gOk g) {p : Nat} (hw : sWork g p < 2) : ∃ b, sFm g p 109 (sMM g) = some b ∧ sNth (sBs g p) 31 0 0 = some b := by
  obtain ⟨m, hm⟩ := sCan_some hg hw
  obtain ⟨b, hb⟩ := sFm_some (g := g) (p := p) (kd := 109) (sMM g) m (sCan_lt hm) hm
  obtain ⟨⟨h1, h2⟩, h3, -⟩ := sFm_ok _ hb
  obtain ⟨h3, h4⟩ := h3 rfl
  have hv : sVal g p = sWth g (sVal g) p b := by
    rw [sVal_eq hg p]
    refine sMx_eq _ ⟨b, h2, by rw [if_pos h1]⟩ fun j hj => ?_
    by_cases c : sCan g p j = true
    · rw [if_pos c]
      exact h3 j hj c
    · rw [if_neg c]
      exact Nat.zero_le _
  have h9 := sCan_9 hg h1
  refine ⟨b, hb, sNth_low ?_ (fun j hj => ?_) 31 0 (Nat.zero_le _) (by omega)⟩
  · rw [sBs_tb hg]
    unfold sBst
    rw [h1, hv, decide_eq_true rfl]
    rfl
  · rw [sBs_tb hg]
    unfold sBst
    cases c : sCan g p j with
    | false => rfl
    | true =>
      have := h4 j hj c
      rw [hv, decide_eq_false (by omega)]
      rfl
theorem sNth_first {g : zg} (hg : gOk g) {p kd : Nat} (h1 : kd ≠ 109) (h2 : kd ≠ 116) (hw : sWork g p < 2) : ∃ b, sFm g p kd (sMM g) = some b ∧ sNth (sLg g p) 31 0 0 = some b := by
  obtain ⟨m, hm⟩ := sCan_some hg hw
  obtain ⟨b, hb⟩ := sFm_some (g := g) (p := p) (kd := kd) (sMM g) m (sCan_lt hm) hm
  obtain ⟨⟨c1, c2⟩, -, c3⟩ := sFm_ok _ hb
  have h9 := sCan_9 hg c1
  refine ⟨b, hb, sNth_low ?_ (fun j hj => ?_) 31 0 (Nat.zero_le _) (by omega)⟩
  · rw [sLg_tb hg]
    exact c1
  · rw [sLg_tb hg]
    exact c3 h1 h2 j hj
section
variable {G : zG} {n : Nat} {I : zI} {L : zL} {R : zR} {q : zq} {post : zPo} {g : zg} {F : zfo} {O A B C D : Nat}
/-- of a position that is over -/
theorem kLay_over (h : kLay g I) {p : Nat} (hr : sR g p) (hw : 2 ≤ sWork g p) : I 47 p = 0 ∧ I 49 p = 0 := h.2.1.2.2.1 p (sR_lt h.1.1 hr) fun z => by omega
theorem k_firstWorst {p : Nat} (hL : kLay g I) (hr : sR g p) (hw : sWork g p < 2) (h : post (some (.int (zon (sFm g p 116 (sMM g))))) I L (zR1 q)) : zC G (n + 2) 224 [.ref 44, .int (nI p)] I L (zR1 q) post := by
  have h19 := sR_lt hL.1.1 hr
  have hmv := sMov_le g p
  have key : ∀ j m (v : Option Value) (lst : Nat), m + j = 9 → lst = (match sFm g p 116 m with | none => 3 | some b => sWth g (sVal g) p b) → zQ G 224 (n + 1) post 21 [some (.ref 44), some (.int (nI p)), some (.int (nI (sMov g p))), some (.int (nI (sLg g p))), some (.int (nI lst)), some (.int (zon (sFm g p 116 m))), some (.int (nI m)), v] [] I L (zR1 q) := by
    intro j
    induction j with
    | zero =>
      intro m v lst hm hl
      rw [show m = 9 by omega, sFm_9 hL.1.1]
      exact b224_21 (pk_le 9 9 (fun _ => b224_72 h) (fun z => absurd z (by omega)) rfl rfl (by omega) (by omega))
    | succ j ih =>
      intro m v lst hm hl
      have hl3 : lst ≤ 3 := by
        rw [hl]
        cases sFm g p 116 m with
        | none => exact Nat.le_refl _
        | some b => have := sWth_le g (sVal g) p b; show sWth g (sVal g) p b ≤ 3; omega
      refine b224_21 (pk_le 9 m (fun z => absurd z (by omega)) (fun _ => k_holds rfl (by have := sLg_lt g p; omega) rfl (by omega) ?_) rfl rfl (by omega) (by omega))
      rw [sLg_tb hL.1.1]
      refine zbo_eq (fun c => b224_66 ?_) (fun c => ?_)
      · have e : sFm g p 116 (m + 1) = sFm g p 116 m := by rw [sFm, if_neg (by rw [c]; decide)]
        have qq := fun v => ih (m + 1) v lst (by omega) (by rw [e]; exact hl)
        rw [e, ← nI_1] at qq
        exact qq _
      · have hqr := sR_step hr hw c
        refine k_nextL hL hr hw c (k_worthToL hL hqr hmv ?_)
        rw [sWth_WT hL.1.1 c (sVal g)]
        have hx2 := sWth_le g (sVal g) p m
        refine pk_le lst (sWth g (sVal g) p m) (fun d => b224_66 ?_) (fun d => b224_66 ?_) rfl rfl (by omega) (by omega)
        · have e : sFm g p 116 (m + 1) = sFm g p 116 m := by
            rw [sFm, if_pos c]
            cases e2 : sFm g p 116 m with
            | none =>
              rw [e2] at hl
              have hl : lst = 3 := hl
              omega
            | some b =>
              rw [e2] at hl
              have hl : lst = sWth g (sVal g) p b := hl
              show (if 116 = 109 ∧ _ then some m else if 116 = 116 ∧ sWth g (sVal g) p m < sWth g (sVal g) p b then some m else some b) = some b
              rw [if_neg (by omega), if_neg (by omega)]
          have qq := fun v => ih (m + 1) v lst (by omega) (by rw [e]; exact hl)
          rw [e, ← nI_1] at qq
          exact qq _
        · have e : sFm g p 116 (m + 1) = some m := by
            rw [sFm, if_pos c]
            cases e2 : sFm g p 116 m with
            | none => rfl
            | some b =>
              rw [e2] at hl
              have hl : lst = sWth g (sVal g) p b := hl
              show (if 116 = 109 ∧ _ then some m else if 116 = 116 ∧ sWth g (sVal g) p m < sWth g (sVal g) p b then some m else some b) = some m
              rw [if_neg (by omega), if_pos (by omega)]
          have qq := fun v => ih (m + 1) v (sWth g (sVal g) p m) (by omega) (by rw [e])
          rw [e, ← nI_1] at qq
          exact qq _
  refine zin0 rfl rfl rfl (b224_0 (k_stateL hL (fun p' e hr' => ?_) (fun hn => absurd hr (hn p rfl (by omega)))))
  have := nI_inj (by omega) (by have := sR_lt hL.1.1 hr'; omega) e
  subst this
  rw [sWork_mov hw]
  refine k_legalL hL hr hw ?_
  exact key 9 0 none 3 (by omega) rfl
theorem k_firstWorst0 {p : Nat} (hL : kLay g I) (hr : sR g p) (hw : 2 ≤ sWork g p) (h : post (some (.int (-1))) I L (zR1 q)) : zC G (n + 2) 224 [.ref 44, .int (nI p)] I L (zR1 q) post := by
  have h19 := sR_lt hL.1.1 hr
  have hw4 := sWork_le g p
  have key : ∀ j m (x2 : Int32) (v : Option Value), m + j = 9 → zQ G 224 (n + 1) post 21 [some (.ref 44), some (.int (nI p)), some (.int x2), some (.int (nI 0)), some (.int 3), some (.int (-1)), some (.int (nI m)), v] [] I L (zR1 q) := by
    intro j
    induction j with
    | zero =>
      intro m x2 v hm
      exact b224_21 (pk_le 9 m (fun _ => b224_72 h) (fun z => absurd z (by omega)) rfl rfl (by omega) (by omega))
    | succ j ih =>
      intro m x2 v hm
      refine b224_21 (pk_le 9 m (fun z => absurd z (by omega)) (fun _ => k_holds (a := 0) rfl (by omega) rfl (by omega) ?_) rfl rfl (by omega) (by omega))
      rw [Nat.zero_testBit]
      refine And.intro (fun _ => b224_66 ?_) (fun z => absurd rfl z)
      have qq := fun v => ih (m + 1) x2 v (by omega)
      rw [← nI_1] at qq
      exact qq _
  refine zin0 rfl rfl rfl (b224_0 (k_stateL hL (fun p' e hr' => k_legalAt h19 ?_) (fun hn => absurd hr (hn p rfl (by omega)))))
  rw [(kLay_over hL hr hw).1]
  exact key 9 0 _ none (by omega)
theorem k_isFool {k : Nat} (hO : kFb O A B C D) (hok : foOk F) (hF : kFo O A B C D F I) (hk : k < F.1) (h : post (some (.int (zbo (decide (F.2.1 k = 102))))) I L (zR1 q)) : zC G (n + 1) 161 [.ref O, .int (nI k)] I L (zR1 q) post := by
  have h14 := hok.1.2
  obtain ⟨f5, f4, fk⟩ := hF
  have fA := (fk k hk).1
  have hl := (hok.2 k hk).1
  rcases hO with ⟨o1, o2, o3, o4, o5⟩ | ⟨o1, o2, o3, o4, o5⟩ | ⟨o1, o2, o3, o4, o5⟩ | ⟨o1, o2, o3, o4, o5⟩ | ⟨o1, o2, o3, o4, o5⟩ | ⟨o1, o2, o3, o4, o5⟩ | ⟨o1, o2, o3, o4, o5⟩ | ⟨o1, o2, o3, o4, o5⟩ <;> (
    have go : I O 5 = nI F.1 → post (some (.int (zbo (decide (F.2.1 k = 102))))) I L (zR1 q) → (I O 5 ≤ nI k → zQ G 161 n post 27 [some (.ref O), some (.int (nI k))] [] I L (zR1 q)) ∧ (¬ I O 5 ≤ nI k → vp_in (nI k) 14 ∧ (¬ I A (nI k).toNatClampNeg = nI 102 → zQ G 161 n post 27 [some (.ref O), some (.int (nI k))] [] I L (zR1 q)) ∧ (I A (nI k).toNatClampNeg = nI 102 → zQ G 161 n post 28 [some (.ref O), some (.int (nI k))] [.int 1] I L (zR1 q))) := by
      intro e5 hp
      rw [e5, nI_clamp (by omega), fA]
      refine pk_le F.1 k (fun z => absurd z (by omega)) (fun _ => And.intro (vp_in_nI (by omega) (by decide)) (pk_ne (F.2.1 k) 102 (fun c => b161_27 (b161_28 (And.intro rfl ?_))) (fun c => b161_28 (And.intro rfl ?_)) rfl rfl (by omega) (by omega))) rfl rfl (by omega) (by omega)
      · rw [decide_eq_false c] at hp
        exact hp
      · rw [decide_eq_true c] at hp
        exact hp
    have qq := go f5 h
    subst o1 o2 o3 o4 o5
    exact zin0 rfl rfl rfl (b161_0 (And.intro (fun z => absurd z (nI_pos (by omega))) (fun _ => qq))))
theorem k_moveOf {k p : Nat} (hO : kFb O A B C D) (hok : foOk F) (hF : kFo O A B C D F I) (hk : k < F.1) (hL : kLay g I) (hr : sR g p) (hn : F.2.1 k ≠ 102) (h1 : sWork g p < 2 → post (some (.int (nI (sFMv g F k p)))) I L (zR1 q)) (h0 : 2 ≤ sWork g p → post (some (.int (-1))) I L (zR1 q)) : zC G (n + 3) 162 [.ref O, .int (nI k), .ref 44, .int (nI p)] I L (zR1 q) post := by
  have h14 := hok.1.2
  have h19 := sR_lt hL.1.1 hr
  have hcl : (nI k).toNatClampNeg = k := nI_clamp (by omega)
  obtain ⟨f5, f4, fk⟩ := hF
  obtain ⟨fA, fD, fW⟩ := fk k hk
  obtain ⟨hl, -, hw9, hwi⟩ := hok.2 k hk
  have over : 2 ≤ sWork g p → I 47 p = 0 ∧ I 49 p = 0 := fun hw => kLay_over hL hr hw
  -- what is done, by the letter
  have isM : sWork g p < 2 → F.2.1 k = 109 → ∀ b, sFm g p 109 (sMM g) = some b → nI (sFMv g F k p) = nI b := fun hw c b hb => by
    unfold sFMv sFMo
    rw [if_neg (by omega), c, hb]
    rfl
  have isT : sWork g p < 2 → F.2.1 k = 116 → zon (sFm g p 116 (sMM g)) = nI (sFMv g F k p) := fun hw c => by
    have e := sFMv_eq hL.1.1 (F := F) (k := k) hw
    have e2 : sFMo g F k p = sFm g p 116 (sMM g) := by
      unfold sFMo
      rw [if_neg (by omega), c]
    rw [← e2, e]
    rfl
  rcases hO with ⟨o1, o2, o3, o4, o5⟩ | ⟨o1, o2, o3, o4, o5⟩ | ⟨o1, o2, o3, o4, o5⟩ | ⟨o1, o2, o3, o4, o5⟩ | ⟨o1, o2, o3, o4, o5⟩ | ⟨o1, o2, o3, o4, o5⟩ | ⟨o1, o2, o3, o4, o5⟩ | ⟨o1, o2, o3, o4, o5⟩ <;> (
    -- the wishes
    have wish : F.2.1 k = 114 → sWork g p < 2 → ∀ j i (v : Option Value), i + j = F.2.2.2.2 k → sWsh g p (F.2.2.2.1 k) i = none → zQ G 162 (n + 2) post 68 [some (.ref O), some (.int (nI k)), some (.ref 44), some (.int (nI p)), some (.int (nI (sLg g p))), some (.int (nI i)), v] [] I L (zR1 q) := by
      intro c hw
      obtain ⟨w1, w2⟩ := fW c
      have last : sWsh g p (F.2.2.2.1 k) (F.2.2.2.2 k) = none → post (some (.int (zon (sNth (sLg g p) 31 0 0)))) I L (zR1 q) := by
        intro e
        obtain ⟨b, b1, b2⟩ := sNth_first hL.1.1 (kd := 114) (by decide) (by decide) hw
        have e2 : sFMv g F k p = b := by
          unfold sFMv sFMo
          rw [if_pos c, e, c, b1]
          rfl
        rw [b2]
        have := h1 hw
        rw [e2] at this
        exact this
      have hit : ∀ i, i < F.2.2.2.2 k → sWsh g p (F.2.2.2.1 k) i = none → sCan g p (F.2.2.2.1 k i) = true → post (some (.int (nI (F.2.2.2.1 k i)))) I L (zR1 q) := by
        intro i hi e hc
        have e1 : sWsh g p (F.2.2.2.1 k) (i + 1) = some (F.2.2.2.1 k i) := by
          rw [sWsh, e]
          exact if_pos hc
        have e2 := sWsh_more e1 (F.2.2.2.2 k - (i + 1))
        rw [show i + 1 + (F.2.2.2.2 k - (i + 1)) = F.2.2.2.2 k by omega] at e2
        have e3 : sFMv g F k p = F.2.2.2.1 k i := by
          unfold sFMv sFMo
          rw [if_pos c, e2]
          rfl
        have := h1 hw
        rw [e3] at this
        exact this
      have lgl := sLg_lt g p
      subst o1 o2 o3 o4 o5
      intro j
      induction j with
      | zero =>
        intro i v hi e
        refine b162_68 (And.intro (vp_in_nI (by omega) (by decide)) ?_)
        rw [hcl, w1]
        refine pk_le (F.2.2.2.2 k) i (fun _ => b162_119 (k_nthBit (m := 0) rfl (by omega) rfl (by omega) ?_)) (fun z => absurd z (by omega)) rfl rfl (by omega) (by omega)
        exact last (by rw [show F.2.2.2.2 k = i by omega]; exact e)
      | succ j ih =>
        intro i v hi e
        have e9 : nI k * 9 + nI i = nI (9 * k + i) := by rw [show (9 : Int32) = nI 9 from rfl, pk_mul, nI_add, Nat.mul_comm]
        have hw8 := hwi i (by omega)
        refine b162_68 (And.intro (vp_in_nI (by omega) (by decide)) ?_)
        rw [hcl, w1]
        refine pk_le (F.2.2.2.2 k) i (fun z => absurd z (by omega)) (fun _ => pk_le 9 i (fun z => absurd z (by omega)) (fun _ => And.intro (by rw [e9]; exact vp_in_nI (by omega) (by decide)) ?_) rfl rfl (by omega) (by omega)) rfl rfl (by omega) (by omega)
        rw [e9, nI_clamp (by omega), w2 i (by omega)]
        refine k_holds rfl (by omega) rfl (by omega) ?_
        rw [sLg_tb hL.1.1]
        refine zbo_eq (fun d => b162_113 ?_) (fun d => hit i (by omega) e d)
        have qq := fun v => ih (i + 1) v (by omega) (by rw [sWsh, e]; exact if_neg (by rw [d]; decide))
        rw [← nI_1] at qq
        exact qq _
    have wish0 : 2 ≤ sWork g p → F.2.1 k = 114 → ∀ j i (v : Option Value), i + j = F.2.2.2.2 k → zQ G 162 (n + 2) post 68 [some (.ref O), some (.int (nI k)), some (.ref 44), some (.int (nI p)), some (.int (nI 0)), some (.int (nI i)), v] [] I L (zR1 q) := by
      intro hw c
      obtain ⟨w1, w2⟩ := fW c
      have h0' := h0 hw
      subst o1 o2 o3 o4 o5
      intro j
      induction j with
      | zero =>
        intro i v hi
        refine b162_68 (And.intro (vp_in_nI (by omega) (by decide)) ?_)
        rw [hcl, w1]
        refine pk_le (F.2.2.2.2 k) i (fun _ => b162_119 (k_nthBit (a := 0) (m := 0) rfl (by omega) rfl (by omega) ?_)) (fun z => absurd z (by omega)) rfl rfl (by omega) (by omega)
        rw [sNth_0]
        exact h0'
      | succ j ih =>
        intro i v hi
        have e9 : nI k * 9 + nI i = nI (9 * k + i) := by rw [show (9 : Int32) = nI 9 from rfl, pk_mul, nI_add, Nat.mul_comm]
        have hw8 := hwi i (by omega)
        refine b162_68 (And.intro (vp_in_nI (by omega) (by decide)) ?_)
        rw [hcl, w1]
        refine pk_le (F.2.2.2.2 k) i (fun z => absurd z (by omega)) (fun _ => pk_le 9 i (fun z => absurd z (by omega)) (fun _ => And.intro (by rw [e9]; exact vp_in_nI (by omega) (by decide)) ?_) rfl rfl (by omega) (by omega)) rfl rfl (by omega) (by omega)
        rw [e9, nI_clamp (by omega), w2 i (by omega)]
        refine k_holds (a := 0) rfl (by omega) rfl (by omega) ?_
        rw [Nat.zero_testBit]
        refine And.intro (fun _ => b162_113 ?_) (fun z => absurd rfl z)
        have qq := fun v => ih (i + 1) v (by omega)
        rw [← nI_1] at qq
        exact qq _
    have main : zQ G 162 (n + 2) post 20 [some (.ref O), some (.int (nI k)), some (.ref 44), some (.int (nI p)), none, none, none] [] I L (zR1 q) := by
      subst o1 o2 o3 o4 o5
      refine b162_20 (And.intro (vp_in_nI (by omega) (by decide)) ?_)
      rw [hcl, fA]
      refine pk_ne (F.2.1 k) 109 (fun c => b162_41 (And.intro (vp_in_nI (by omega) (by decide)) ?_)) (fun c => k_bestAt h19 ?_) rfl rfl (by omega) (by omega)
      · rw [hcl, fA]
        refine pk_ne (F.2.1 k) 116 (fun c2 => b162_58 (k_legalAt h19 ?_)) (fun c2 => ?_) rfl rfl (by omega) (by omega)
        · have c3 : F.2.1 k = 114 := by omega
          rcases Nat.lt_or_ge (sWork g p) 2 with hw | hw
          · rw [(kLay_R hL hr hw).2.1]
            exact wish c3 hw _ 0 none (Nat.zero_add _) rfl
          · rw [(over hw).1]
            exact wish0 hw c3 _ 0 none (Nat.zero_add _)
        · rcases Nat.lt_or_ge (sWork g p) 2 with hw | hw
          · refine k_firstWorst hL hr hw ?_
            rw [isT hw c2]
            exact h1 hw
          · exact k_firstWorst0 hL hr hw (h0 hw)
      · rcases Nat.lt_or_ge (sWork g p) 2 with hw | hw
        · rw [(kLay_R hL hr hw).2.2.2.1]
          obtain ⟨b, b1, b2⟩ := sNth_best hL.1.1 hw
          refine k_nthBit (m := 0) rfl (by have := sBs_lt g p; omega) rfl (by omega) ?_
          rw [b2]
          have := h1 hw
          rw [isM hw c b b1] at this
          exact this
        · rw [(over hw).2]
          refine k_nthBit (a := 0) (m := 0) rfl (by omega) rfl (by omega) ?_
          rw [sNth_0]
          exact h0 hw
    have go : ∀ x : Int32, x = nI F.1 → (x ≤ nI k → zQ G 162 (n + 2) post 18 [some (.ref O), some (.int (nI k)), some (.ref 44), some (.int (nI p)), none, none, none] [] I L (zR1 q)) ∧ (¬ x ≤ nI k → (nI k < nI 14 → zQ G 162 (n + 2) post 20 [some (.ref O), some (.int (nI k)), some (.ref 44), some (.int (nI p)), none, none, none] [] I L (zR1 q)) ∧ (¬ nI k < nI 14 → zQ G 162 (n + 2) post 18 [some (.ref O), some (.int (nI k)), some (.ref 44), some (.int (nI p)), none, none, none] [] I L (zR1 q))) := by
      intro x hx
      subst hx
      exact pk_le F.1 k (fun z => absurd z (by omega)) (fun _ => pk_lt k 14 (fun _ => main) (fun z => absurd z (by omega)) rfl rfl (by omega) (by omega)) rfl rfl (by omega) (by omega)
    have gg := go _ f5
    subst o1 o2 o3 o4 o5
    exact zin0 rfl rfl rfl (b162_0 (And.intro (fun z => absurd z (nI_pos (by omega))) (fun _ => gg))))
end
