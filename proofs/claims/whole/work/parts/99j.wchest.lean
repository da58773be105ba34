-- ===== calls on both: the chest =====
theorem sLs_at {g : zg} {b m : Nat} : ∀ n, 1 ≤ n → ∃ t, t < n ∧ sTP g b t = b ∧ sLs g b m n = sLed g m t
  | 0, h => absurd h (Nat.not_lt_zero _)
  | n + 1, _ => by
    rw [sLs]
    by_cases c0 : n = 0
    · rw [if_pos c0]
      exact ⟨0, by omega, sTP_0 g b, (if_pos rfl).symm⟩
    · rw [if_neg c0]
      obtain ⟨t, t1, t2, t3⟩ := sLs_at (g := g) (b := b) (m := m) n (by omega)
      by_cases c1 : sTP g b n = b
      · rw [if_pos c1]
        by_cases c2 : sLs g b m n ≤ sTd g m n
        · rw [Nat.min_eq_left c2]
          exact ⟨t, by omega, t2, t3⟩
        · rw [Nat.min_eq_right (by omega)]
          exact ⟨n, by omega, c1, (if_neg c0).symm⟩
      · rw [if_neg c1]
        exact ⟨t, by omega, t2, t3⟩
theorem sLs_le {g : zg} {b m : Nat} : ∀ n t, t < n → sTP g b t = b → sLs g b m n ≤ sLed g m t
  | 0, t, h, _ => absurd h (Nat.not_lt_zero _)
  | n + 1, t, h, hb => by
    rw [sLs]
    by_cases c0 : n = 0
    · rw [if_pos c0, show t = 0 by omega]
      exact Nat.le_of_eq (if_pos rfl).symm
    · rw [if_neg c0]
      by_cases c1 : t = n
      · subst c1
        rw [if_pos hb, show sLed g m t = sTd g m t from if_neg c0]
        exact Nat.min_le_right _ _
      · have a := sLs_le (g := g) (b := b) (m := m) n t (by omega) hb
        split
        · exact Nat.le_trans (Nat.min_le_left _ _) a
        · exact a
theorem sLeast_has {g : zg} (hg : gOk g) {b m : Nat} (hr : sR g b) (hc : sCan g b m = true) : sHas g b (sLeast g b m) = true := by
  have ht := sTurns_le g
  have hmm := sCan_lt hc
  obtain ⟨t0, a1, a2, a3⟩ := sLs_at (g := g) (b := b) (m := m) (sTurns g) (by omega)
  have e0 : sLeast g b m = sLed g m t0 := a3
  have can : sCan g b (sLeast g b m) = true := by
    have := sLed_can (p := b) hg a1 hmm
    rw [a2] at this
    rw [e0, this]
    exact hc
  unfold sHas
  rw [can, Bool.true_and]
  refine decide_eq_true (Nat.le_antisymm ?_ ?_)
  · have := sLs_le (g := g) (b := b) (m := sLeast g b m) (sTurns g) 0 (by omega) (sTP_0 g b)
    exact Nat.le_trans this (Nat.le_of_eq (if_pos rfl))
  · obtain ⟨t1, c1, c2, c3⟩ := sLs_at (g := g) (b := b) (m := sLeast g b m) (sTurns g) (by omega)
    show _ ≤ sLs g b (sLeast g b m) (sTurns g)
    rw [c3, show sLed g (sLeast g b m) t1 = sLed g m (tMul t0 t1) by rw [e0, sLed_mul hg a1 c1 hmm]]
    exact sLs_le (sTurns g) (tMul t0 t1) (tMul_turns a1 c1) (by rw [← gTP_mul hg a1 c1 hr, a2, c2])
theorem xNum_of {z : Int32} (h1 : ¬ z < 1) (h2 : ¬ 99 < z) : ∃ k, xNum z k := by
  obtain ⟨k, hk, e⟩ := nI_of2 (x := z) (M := 99) (n := 99) (by decide) (fun w => h1 (Int32.lt_trans w (by decide))) (Int32.not_lt.mp h2)
  subst e
  refine ⟨k, rfl, ?_, hk⟩
  by_cases c : 1 ≤ k
  · exact c
  · exact absurd ((nI_ltI (b := 1) (by omega) (by decide)).mpr (by omega)) h1
theorem xNum_1 {z : Int32} {k : Nat} (h : xNum z k) : ¬ z < 1 ∧ ¬ 99 < z := by
  obtain ⟨rfl, h1, h2⟩ := h
  exact ⟨fun w => absurd ((nI_ltI (b := 1) (by omega) (by decide)).mp w) (by omega), fun w => absurd ((nI_ltI (a := 99) (by decide) (by omega)).mp w) (by omega)⟩
section
variable {G : zG} {n : Nat} {I : zI} {L : zL} {q : zq} {g : zg} {c : sC} {fr : Nat → Nat} {nr : Nat} {rl : zrl} {ru : Option Nat} {nf : Nat} {fo : Nat → zfo} {en : Nat → Int32} {tx : Nat → Nat} {tn : Nat} {kp : Nat → Bool} {kc : Nat → sC} {wa : List zwt} {ro : List Int64} {t : Nat}
theorem wOk_C : wOk tC := ⟨by decide, by decide, fun k => ⟨rfl, rfl, rfl, rfl, rfl, rfl⟩, fun k => ⟨rfl, rfl, rfl, rfl, rfl, rfl⟩, fun k => ⟨rfl, rfl, rfl, rfl⟩⟩
theorem wM_C {c' : sC} {I' : zI} (h : wM g c fr nr rl ru nf fo en tx tn kp kc wa ro I L) (hf : zFr tC I I') (hc : mC c' I') (hi : cIn g c') : wM g c' fr nr rl ru nf fo en tx tn kp kc wa ro I' L := wM_t h hf wOk_C (fun s _ => hf 6 s rfl) (fun j c' _ z => mK_of z (zFr_row hf fun _ => rfl) (zFr_row hf fun _ => rfl) (zFr_row hf fun _ => rfl)) rfl hc hi (fun k hk => (hf 15 k rfl).trans (h.2.2.2.2.2.1 k hk)) (by
  unfold mRow
  rw [hf 0 33 rfl]
  exact h.2.2.2.2.2.2.2.2.2.1.1) h.2.2.2.2.2.2.2.2.2.1.2 ((hf 0 35 rfl).trans h.2.2.2.2.2.2.2.2.2.2)
theorem wC_ch {c' : sC} {I' : zI} (h : wC g c fr nr rl ru nf fo en tx tn kp kc wa ro t I L) (f : zFr (tCh 62 63 64) I I') (kc' : kC g c' 62 63 64 I') : wC g c' fr nr rl ru nf fo en tx tn kp kc wa ro t I' L := wC_play h (fun o z => ch_row f (by unfold wKeep at z; omega) (by unfold wKeep at z; omega) (by unfold wKeep at z; omega)) (kZ_of h.1 (fun o z1 z2 => ch_row f (by omega) (by omega) (by omega))) kc' (kEn_of h.2.2.2.2.2.2.2.2.1 (ch_row f (by decide) (by decide) (by decide))) (kRow_of h.2.2.2.2.2.2.2.2.2.2.1 (ch_row f (by decide) (by decide) (by decide)) rfl) (kMk_of h.2.2.2.2.2.2.2.2.2.2.2 (ch_row f (by decide) (by decide) (by decide)) (ch_row f (by decide) (by decide) (by decide)) (ch_row f (by decide) (by decide) (by decide)))
theorem wE_C {c' : sC} {t' : Nat} {I1 I2 I3 : zI} (M1 : wM g c fr nr rl ru nf fo en tx tn kp kc wa ro I1 L) (C1 : wC g c fr nr rl ru nf fo en tx tn kp kc wa ro t' I1 L) (kc' : kC g c' 62 63 64 I2) (f : zFr (tCh 62 63 64) I1 I2) (ht : t' ≤ t + 101) (mc : mC c' I3) (f3 : zFr tC (zup I2 0 34 0) I3) (hi : cIn g c') : wE t I3 L := ⟨g, c', fr, nr, rl, ru, nf, fo, en, tx, tn, kp, kc, wa, ro, t', ht, wM_C (wM_34 (wM_lo M1 (fun o z => ch_row f (by omega) (by omega) (by omega)) (fun _ _ => rfl))) f3 mc hi, wC_hi (wC_ch C1 f kc') (fun o z => (hi_of (fun _ _ => rfl) f3 o z).trans (zup_ne (by omega))) rfl⟩
theorem w_open {x : Int32} (h : wB g c fr nr rl ru nf fo en tx tn kp kc wa ro t I L) : zC G (n + 300) 273 [.ref 40, .int x] I L (zR1 q) (wPo G (n + 300) 78 [.ref 0, .int x] t) := by
  obtain ⟨hM, hC⟩ := h
  refine zin0 rfl rfl rfl (b273_0 (w_lay hC (fun I1 C1 hL ho => ?_)))
  have M1 := wM_lo hM (fun o z => ho o (by omega)) (fun _ _ => rfl)
  have hg := hL.1.1
  have g8 := hg.2.2.2.2.2.2.2.2
  have hin := M1.2.1.2
  have no : (∀ p, x = nI p → p < 2 ^ 31 → sR g p → sWork g p = g 8 → c.2.1 (sBox g p) = true) → wPo G (n + 300) 78 [.ref 0, .int x] t (some (.int (-1))) I1 L (zR1 q) := fun z => ⟨⟨_, rfl⟩, q, rfl, c_openP M1.1.1 M1.1.2 M1.2.2.1 hin M1.2.1.1 M1.2.2.2.2.2.2.2.2.2.2 (fun p e hr hw ho2 => absurd (z p e (sR_31 hg hr) hr hw) (by rw [ho2]; decide)) (fun _ => ⟨rfl, ⟨q, rfl⟩, wE_34 M1 C1 (by omega)⟩)⟩
  refine k_slotOf hL (fun p e hr hw => ?_) (fun z => And.intro (fun _ => b273_31 (no (fun p e hp hr hw => absurd hw (z p e hp hr)))) (fun z2 => absurd (by decide) z2))
  have hw2 : sWork g p < 2 := by omega
  have hb := sB_box hg hr hw
  have sl1 := sl_lt hg hb
  have e1 : sSl g (g 8) (sBox g p) = sl g (sBox g p) := rfl
  rw [e1]
  have bb := gR_box hg hr
  have uq : ∀ p', x = nI p' → sR g p' → p' = p := fun p' e' hr' => sR_nI hg hr' hr (e'.symm.trans e)
  refine And.intro (fun z => absurd z (nI_pos (by omega))) (fun _ => k_isOpened (Or.inl ⟨rfl, rfl, rfl⟩) hg C1.2.2.1 hb (zbo_eq (fun d => b273_33 ?_) (fun d => b273_31 (no (fun p' e' _ hr' _ => by rw [uq p' e' hr']; exact d)))))
  subst e
  have st31 : sStn g p < 2 ^ 31 := by
    unfold sStn
    have := sCnt_le p (sPl g)
    have := sPl_pos hg
    have h5 := hg.2.2.2.2.2.1
    split <;> omega
  have hfr := C1.2.2.2.2.1
  refine k_kindsAt hL hr hw2 (k_stonesL hL hr hw2 (k_entryFor ⟨rfl, rfl⟩ hfr st31 ?_))
  have x20 := (hfr (min 20 (sStn g p)) (by omega)).2
  refine k_fill2 (b := sBox g p) (x := fr (min 20 (sStn g p))) (f := sHas g (sBox g p)) (Or.inl ⟨rfl, rfl, rfl⟩) hg hin.1 C1.2.2.1 hb (kd_bits g (sBox g p)) rfl (by omega) (fun I2 kc2 f2 => ?_)
  rw [cFl_fill, cFill_9 hg] at kc2
  have eO : sOpn g fr c (sBox g p) = (cFill g (sBox g p) (fr (min 20 (sStn g p))) (cSetOp c (sBox g p) true) (sMM g)).1 := by
    unfold sOpn
    rw [if_neg (by rw [d]; decide), bb.2.2.1]
  rw [← eO] at kc2
  have M2 := wM_lo M1 (I' := I2) (L' := L) (fun o z => ch_row f2 (by omega) (by omega) (by omega)) (fun _ _ => rfl)
  refine ⟨⟨_, rfl⟩, q, rfl, c_openP M2.1.1 M2.1.2 M2.2.2.1 hin M2.2.1.1 M2.2.2.2.2.2.2.2.2.2.2 (fun p' e' hr' hw' ho' I3 mc3 f3 => ⟨?_, ⟨q, rfl⟩, ?_⟩) (fun z => absurd (z p rfl (sR_31 hg hr) hr hw) (by rw [d]; decide))⟩
  · rw [uq p' e' hr', cFl_fill, cFill_9 hg, bb.2.2.1]
  · rw [uq p' e' hr'] at mc3
    exact wE_C M1 C1 kc2 f2 (by omega) mc3 f3 (sOpn_in hg hin hr hw).1
theorem w_put {x y z : Int32} (h : wB g c fr nr rl ru nf fo en tx tn kp kc wa ro t I L) : zC G (n + 300) 274 [.ref 40, .int x, .int y, .int z] I L (zR1 q) (wPo G (n + 300) 80 [.ref 0, .int x, .int y, .int z] t) := by
  obtain ⟨hM, hC⟩ := h
  refine zin0 rfl rfl rfl (b274_0 (w_lay hC (fun I1 C1 hL ho => ?_)))
  have M1 := wM_lo hM (fun o z => ho o (by omega)) (fun _ _ => rfl)
  have hg := hL.1.1
  have g8 := hg.2.2.2.2.2.2.2.2
  have hin := M1.2.1.2
  have no : (∀ p m k, p < 2 ^ 31 → xMine g x y p m → c.2.1 (sBox g p) = true → xNum z k → c.2.2.1 < k) → wPo G (n + 300) 80 [.ref 0, .int x, .int y, .int z] t (some (.int (-1))) I1 L (zR1 q) := fun w => ⟨⟨_, rfl⟩, q, rfl, c_put M1.1.1 M1.1.2 hin M1.2.1.1 M1.2.2.2.2.2.2.2.2.2.2 (fun p m k hx hop hk hb => absurd (w p m k (sR_31 hg hx.2.2.2.1) hx hop hk) (by omega)) (fun _ => ⟨rfl, ⟨q, rfl⟩, wE_34 M1 C1 (by omega)⟩)⟩
  have num : ∀ {A B : Prop}, ((∀ k, ¬ xNum z k) → A) → (∀ k, xNum z k → B) → (z < 1 → A) ∧ (¬ z < 1 → (99 < z → A) ∧ (¬ 99 < z → B)) := fun a b => ⟨fun w => a (fun k hk => (xNum_1 hk).1 w), fun w => ⟨fun w2 => a (fun k hk => (xNum_1 hk).2 w2), fun w2 => by
    obtain ⟨k, hk⟩ := xNum_of w w2
    exact b k hk⟩⟩
  refine k_slotOf hL (fun p e hr hw => ?_) (fun zs => ?_)
  · have hb := sB_box hg hr hw
    have sl1 := sl_lt hg hb
    have e1 : sSl g (g 8) (sBox g p) = sl g (sBox g p) := rfl
    rw [e1]
    have hbg := cAll_bd hin.1 (k := 0) (by omega)
    refine k_kindOf hL (fun p' m hx => ?_) (fun zk => ?_)
    · have ep : p' = p := sR_nI hg hx.2.2.2.1 hr (hx.1.symm.trans e)
      subst ep
      have hmm := sCan_lt hx.2.2.2.2.2
      have mm := sMM_pos hg
      have hml := sLeast_lt (b := sBox g p') hg (sLed_lt hg hmm (sTurnOf_lt g p'))
      have hxm : xMine g x y p' m := ⟨hx.1, hx.2.1, hx.2.2.1, hr, hw, hx.2.2.2.2.2⟩
      have uq : ∀ p2 m2, xMine g x y p2 m2 → p2 = p' ∧ m2 = m := fun p2 m2 h2 => ⟨sR_nI hg h2.2.2.2.1 hr (h2.1.symm.trans e), nI_inj h2.2.2.1 hx.2.2.1 (h2.2.1.symm.trans hx.2.1)⟩
      have canb : sCan g (sBox g p') (sLed g m (sTurnOf g p')) = true := by
        show sCan g (sTP g p' (sTurnOf g p')) _ = true
        rw [sLed_can hg (sTurnOf_lt g p') hmm]
        exact hx.2.2.2.2.2
      have has := sLeast_has hg (gR_box hg hr).1 canb
      refine num (fun w => b274_67 (no (fun p2 m2 k _ _ _ hk => absurd hk (w k)))) (fun k hk => k_isOpened (Or.inl ⟨rfl, rfl, rfl⟩) hg C1.2.2.1 hb (zbo_eq (fun d => b274_67 (no (fun p2 m2 k _ h2 ho2 _ => absurd ho2 (by rw [(uq p2 m2 h2).1, d]; decide)))) (fun d => And.intro (fun w => absurd w (nI_pos (by omega))) (fun _ => ?_))))
      obtain ⟨rfl, k1, k99⟩ := hk
      refine pk_le k c.2.2.1 (fun hkb => b274_69 ?_) (fun hkb => b274_67 (no (fun p2 m2 k2 _ h2 _ hk2 => ?_))) rfl C1.2.2.1.2.2.1 (by omega) (by omega)
      · refine k_takeIn (b := sBox g p') (x := k) (Or.inl ⟨rfl, rfl, rfl⟩) hg hin.1 C1.2.2.1 hb (by omega) rfl (by omega) (fun I2 kc2 f2 => And.intro rfl ?_)
        refine k_beadsOf (Or.inl ⟨rfl, rfl, rfl⟩) hg kc2 hb (by omega) ⟨⟨_, rfl⟩, q, rfl, ?_⟩
        have M2 := wM_lo M1 (I' := I2) (L' := L) (fun o z => ch_row f2 (by omega) (by omega) (by omega)) (fun _ _ => rfl)
        refine c_put M2.1.1 M2.1.2 hin M2.2.1.1 M2.2.2.2.2.2.2.2.2.2.2 (fun p2 m2 k2 h2 _ hk2 hb2 I3 mc3 f3 => ?_) (fun w => absurd (w p' m k (sR_31 hg hr) hxm d ⟨rfl, k1, k99⟩) (by omega))
        have ek : k2 = k := (nI_inj (by omega) (by have := hk2.2.2; omega) hk2.1).symm
        rw [(uq p2 m2 h2).1, (uq p2 m2 h2).2, ek] at mc3 ⊢
        refine ⟨?_, ⟨q, rfl⟩, wE_C M1 C1 kc2 f2 (by omega) mc3 f3 (cIn_give hg k hin (by omega) d has)⟩
        unfold cGive cSetBd
        rw [Nat.min_eq_left hkb]
        show _ = some (Value.int (nI (fup _ _ _ (9 * sBox g p' + sLeast g (sBox g p') (sLed g m (sTurnOf g p'))))))
        rw [fup_s]
        rfl
      · have ek : k2 = k := (nI_inj (by omega) (by have := hk2.2.2; omega) hk2.1).symm
        omega
    · refine num (fun w => b274_67 (no (fun p2 m2 k _ _ _ hk => absurd hk (w k)))) (fun k hk => k_isOpened (Or.inl ⟨rfl, rfl, rfl⟩) hg C1.2.2.1 hb ?_)
      have w : wPo G (n + 300) 80 [.ref 0, .int x, .int y, .int z] t (some (.int (-1))) I1 L (zR1 q) := no (fun p2 m2 k hp2 h2 _ _ => absurd ⟨h2.1, h2.2.1, h2.2.2.1, h2.2.2.2.1, by have := h2.2.2.2.2.1; omega, h2.2.2.2.2.2⟩ (zk p2 m2 hp2))
      exact zbo_eq (fun d => b274_67 w) (fun d => And.intro (fun _ => b274_67 w) (fun w2 => absurd (by decide) w2))
  · have w : wPo G (n + 300) 80 [.ref 0, .int x, .int y, .int z] t (some (.int (-1))) I1 L (zR1 q) := no (fun p2 m2 k hp2 h2 _ _ => absurd h2.2.2.2.2.1 (zs p2 h2.1 hp2 h2.2.2.2.1))
    exact k_kindOf hL (fun p' m hx => num (fun _ => b274_67 w) (fun k hk => k_isOpened0 (Or.inl ⟨rfl, rfl, rfl⟩) (And.intro (fun _ => b274_67 w) (fun w2 => absurd rfl w2)))) (fun zk => num (fun _ => b274_67 w) (fun k hk => k_isOpened0 (Or.inl ⟨rfl, rfl, rfl⟩) (And.intro (fun _ => b274_67 w) (fun w2 => absurd rfl w2))))
end
