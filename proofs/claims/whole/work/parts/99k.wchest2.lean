-- ===== calls on both: out, share, errs =====
theorem cAll_out {c : sC} (h : cAll c) {k x : Nat} (hk : k < 177147) (hx : x ≤ c.1 k) : cAll (cOut c k x) := by
  have e := sSum_fup (f := c.1) (v := c.1 k - x) 177147 hk
  unfold cAll at h ⊢
  show sSum (fup c.1 k (c.1 k - x)) 177147 + (c.2.2.1 + x) + c.2.2.2.1 = 10000
  omega
section
variable {G : zG} {n : Nat} {I : zI} {L : zL} {q : zq} {g : zg} {c : sC} {fr : Nat → Nat} {nr : Nat} {rl : zrl} {ru : Option Nat} {nf : Nat} {fo : Nat → zfo} {en : Nat → Int32} {tx : Nat → Nat} {tn : Nat} {kp : Nat → Bool} {kc : Nat → sC} {wa : List zwt} {ro : List Int64} {t : Nat}
theorem w_out {x y z : Int32} (h : wB g c fr nr rl ru nf fo en tx tn kp kc wa ro t I L) : zC G (n + 300) 275 [.ref 40, .int x, .int y, .int z] I L (zR1 q) (wPo G (n + 300) 81 [.ref 0, .int x, .int y, .int z] t) := by
  obtain ⟨hM, hC⟩ := h
  refine zin0 rfl rfl rfl (b275_0 (w_lay hC (fun I1 C1 hL ho => ?_)))
  have M1 := wM_lo hM (fun o z => ho o (by omega)) (fun _ _ => rfl)
  have hg := hL.1.1
  have g8 := hg.2.2.2.2.2.2.2.2
  have hin := M1.2.1.2
  have no : (∀ p m k, p < 2 ^ 31 → xMine g x y p m → c.2.1 (sBox g p) = true → xNum z k → c.1 (sAtB g p m) < k) → wPo G (n + 300) 81 [.ref 0, .int x, .int y, .int z] t (some (.int (-1))) I1 L (zR1 q) := fun w => ⟨⟨_, rfl⟩, q, rfl, c_out M1.1.1 M1.1.2 hin M1.2.1.1 (fun p m k hx hop hk hb => absurd (w p m k (sR_31 hg hx.2.2.2.1) hx hop hk) (by omega)) (fun _ => ⟨rfl, ⟨q, rfl⟩, wE_34 M1 C1 (by omega)⟩)⟩
  have num : ∀ {A B : Prop}, ((∀ k, ¬ xNum z k) → A) → (∀ k, xNum z k → B) → (z < 1 → A) ∧ (¬ z < 1 → (99 < z → A) ∧ (¬ 99 < z → B)) := fun a b => ⟨fun w => a (fun k hk => (xNum_1 hk).1 w), fun w => ⟨fun w2 => a (fun k hk => (xNum_1 hk).2 w2), fun w2 => by
    obtain ⟨k, hk⟩ := xNum_of w w2
    exact b k hk⟩⟩
  refine k_slotOf hL (fun p e hr hw => ?_) (fun zs => ?_)
  · have hb := sB_box hg hr hw
    have sl1 := sl_lt hg hb
    have e1 : sSl g (g 8) (sBox g p) = sl g (sBox g p) := rfl
    rw [e1]
    refine k_kindOf hL (fun p' m hx => ?_) (fun zk => ?_)
    · have ep : p' = p := sR_nI hg hx.2.2.2.1 hr (hx.1.symm.trans e)
      subst ep
      have hmm := sCan_lt hx.2.2.2.2.2
      have mm := sMM_pos hg
      have hml := sLeast_lt (b := sBox g p') hg (sLed_lt hg hmm (sTurnOf_lt g p'))
      have hxm : xMine g x y p' m := ⟨hx.1, hx.2.1, hx.2.2.1, hr, hw, hx.2.2.2.2.2⟩
      have uq : ∀ p2 m2, xMine g x y p2 m2 → p2 = p' ∧ m2 = m := fun p2 m2 h2 => ⟨sR_nI hg h2.2.2.2.1 hr (h2.1.symm.trans e), nI_inj h2.2.2.1 hx.2.2.1 (h2.2.1.symm.trans hx.2.1)⟩
      have canb : sCan g (sBox g p') (sLed g m (sTurnOf g p')) = true := by
        show sCan g (sTP g p' (sTurnOf g p')) _ = true
        rw [sLed_can hg (sTurnOf_lt g p') hmm]
        exact hx.2.2.2.2.2
      have has := sLeast_has hg (gR_box hg hr).1 canb
      have h19 := sR_lt hg (gR_box hg hr).1
      have hbd := (cAll_bd hin.1 (k := sAtB g p' m) (by unfold sAtB; omega)).1
      have eAt : sAtB g p' m = 9 * sBox g p' + sLeast g (sBox g p') (sLed g m (sTurnOf g p')) := rfl
      refine num (fun w => b275_71 (no (fun p2 m2 k _ _ _ hk => absurd hk (w k)))) (fun k hk => k_isOpened (Or.inl ⟨rfl, rfl, rfl⟩) hg C1.2.2.1 hb (zbo_eq (fun d => b275_71 (no (fun p2 m2 k _ h2 ho2 _ => absurd ho2 (by rw [(uq p2 m2 h2).1, d]; decide)))) (fun d => And.intro (fun w => absurd w (nI_pos (by omega))) (fun _ => ?_))))
      obtain ⟨rfl, k1, k99⟩ := hk
      refine k_beadsOf (Or.inl ⟨rfl, rfl, rfl⟩) hg C1.2.2.1 hb (by omega) ?_
      rw [← eAt]
      refine pk_le k (c.1 (sAtB g p' m)) (fun hkb => b275_73 ?_) (fun hkb => b275_71 (no (fun p2 m2 k2 _ h2 _ hk2 => ?_))) rfl rfl (by omega) (by omega)
      · refine k_giveBack (b := sBox g p') (x := k) (Or.inl ⟨rfl, rfl, rfl⟩) hg hin.1 C1.2.2.1 hb (by omega) rfl (by omega) hkb (fun I2 kc2 f2 => ?_)
        refine k_beadsOf (Or.inl ⟨rfl, rfl, rfl⟩) hg kc2 hb (by omega) ⟨⟨_, rfl⟩, q, rfl, ?_⟩
        have M2 := wM_lo M1 (I' := I2) (L' := L) (fun o z => ch_row f2 (by omega) (by omega) (by omega)) (fun _ _ => rfl)
        refine c_out M2.1.1 M2.1.2 hin M2.2.1.1 (fun p2 m2 k2 h2 _ hk2 hb2 I3 mc3 f3 => ?_) (fun w => absurd (w p' m k (sR_31 hg hr) hxm d ⟨rfl, k1, k99⟩) (by omega))
        have ek : k2 = k := (nI_inj (by omega) (by have := hk2.2.2; omega) hk2.1).symm
        rw [(uq p2 m2 h2).1, (uq p2 m2 h2).2, ek] at mc3 ⊢
        refine ⟨?_, ⟨q, rfl⟩, wE_C M1 C1 kc2 f2 (by omega) mc3 f3 (cIn_set (b := sBox g p') (k := sLeast g (sBox g p') (sLed g m (sTurnOf g p'))) hin (cAll_out hin.1 (by omega) hkb) rfl (by omega) d has (fun j hj => fup_n hj))⟩
        unfold cOut cSetBag cSetBd
        show _ = some (Value.int (nI (fup _ _ _ (9 * sBox g p' + sLeast g (sBox g p') (sLed g m (sTurnOf g p'))))))
        rw [fup_s]
        rfl
      · have ek : k2 = k := (nI_inj (by omega) (by have := hk2.2.2; omega) hk2.1).symm
        rw [(uq p2 m2 h2).1, (uq p2 m2 h2).2, ek]
        exact hkb
    · refine num (fun w => b275_71 (no (fun p2 m2 k _ _ _ hk => absurd hk (w k)))) (fun k hk => k_isOpened (Or.inl ⟨rfl, rfl, rfl⟩) hg C1.2.2.1 hb ?_)
      have w : wPo G (n + 300) 81 [.ref 0, .int x, .int y, .int z] t (some (.int (-1))) I1 L (zR1 q) := no (fun p2 m2 k hp2 h2 _ _ => absurd ⟨h2.1, h2.2.1, h2.2.2.1, h2.2.2.2.1, by have := h2.2.2.2.2.1; omega, h2.2.2.2.2.2⟩ (zk p2 m2 hp2))
      exact zbo_eq (fun d => b275_71 w) (fun d => And.intro (fun _ => b275_71 w) (fun w2 => absurd (by decide) w2))
  · have w : wPo G (n + 300) 81 [.ref 0, .int x, .int y, .int z] t (some (.int (-1))) I1 L (zR1 q) := no (fun p2 m2 k hp2 h2 _ _ => absurd h2.2.2.2.2.1 (zs p2 h2.1 hp2 h2.2.2.2.1))
    exact k_kindOf hL (fun p' m hx => num (fun _ => b275_71 w) (fun k hk => k_isOpened0 (Or.inl ⟨rfl, rfl, rfl⟩) (And.intro (fun _ => b275_71 w) (fun w2 => absurd rfl w2)))) (fun zk => num (fun _ => b275_71 w) (fun k hk => k_isOpened0 (Or.inl ⟨rfl, rfl, rfl⟩) (And.intro (fun _ => b275_71 w) (fun w2 => absurd rfl w2))))
theorem w_share {x : Int32} (h : wB g c fr nr rl ru nf fo en tx tn kp kc wa ro t I L) : zC G (n + 300) 283 [.ref 40, .int x] I L (zR1 q) (wPo G (n + 300) 108 [.ref 0, .int x] t) := by
  obtain ⟨hM, hC⟩ := h
  refine zin0 rfl rfl rfl (b283_0 (w_lay hC (fun I1 C1 hL ho => ?_)))
  have M1 := wM_lo hM (fun o z => ho o (by omega)) (fun _ _ => rfl)
  have hg := hL.1.1
  have g8 := hg.2.2.2.2.2.2.2.2
  have hin := M1.2.1.2
  have E : wE t (zup I1 0 34 0) L := wE_34 M1 C1 (by omega)
  refine k_slotOf hL (fun p e hr hw => ?_) (fun z => And.intro (fun z2 => absurd z2 (by decide)) (fun _ => ⟨⟨_, rfl⟩, q, rfl, c_share M1.1.1 M1.1.2 hin M1.2.1.1 (fun p e hr hw => absurd hw (z p e (sR_31 hg hr) hr)) (fun _ => ⟨rfl, ⟨q, rfl⟩, E⟩)⟩))
  have hb := sB_box hg hr hw
  have bb := gR_box hg hr
  have sl1 := sl_lt hg hb
  have e1 : sSl g (g 8) (sBox g p) = sl g (sBox g p) := rfl
  rw [e1]
  have h19 := sR_lt hg bb.1
  have ib := sInB_le hin.1 h19
  have bi := sBI_le (c := c) (b := sBox g p) hg
  have fin : ∀ v : Int32, v = (if c.2.1 (sBox g p) = true ∧ sInB c (sBox g p) ≠ 0 then nI (1000 * sBI g c (sBox g p) / sInB c (sBox g p)) else -2) → wPo G (n + 300) 108 [.ref 0, .int x] t (some (.int v)) I1 L (zR1 q) := fun v hv => ⟨⟨_, rfl⟩, q, rfl, c_share M1.1.1 M1.1.2 hin M1.2.1.1 (fun p2 e2 hr2 _ => ⟨by rw [sR_nI hg hr2 hr (e2.symm.trans e), hv], ⟨q, rfl⟩, E⟩) (fun z => absurd hw (z p e (sR_31 hg hr) hr))⟩
  refine And.intro (fun _ => b283_22 ?_) (fun z => absurd (nI_pos' (by omega)) z)
  refine k_allOf (Or.inl ⟨rfl, rfl, rfl⟩) hg C1.2.2.1 hb (k_isOpened (Or.inl ⟨rfl, rfl, rfl⟩) hg C1.2.2.1 hb (zbo_eq (fun d => b283_46 (fin _ (by rw [if_neg (fun w => by rw [d] at w; exact absurd w.1 (by decide))]))) (fun d => pk_lt 0 (sInB c (sBox g p)) (fun i0 => b283_49 ?_) (fun i0 => b283_46 (fin _ (by rw [if_neg (fun w => by have := w.2; omega)]))) rfl rfl (by omega) (by omega))))
  refine k_boxOf hL (fun p' e' hr' hw' => ?_) (fun z => absurd (z p e (sR_31 hg hr) hr) (by omega))
  have ep : p' = p := sR_nI hg hr' hr (e'.symm.trans e)
  subst ep
  refine k_bestL hL bb.1 (by rw [bb.2.1]; omega) (k_sumOf (Or.inl ⟨rfl, rfl, rfl⟩) hg C1.2.2.1 hb (bs_bits g (sBox g p')) (And.intro ?_ ?_))
  · exact nI_ne0 i0 (by omega)
  · rw [sBI_9 hg]
    have ev : nI (sBI g c (sBox g p')) * 1000 / nI (sInB c (sBox g p')) = nI (1000 * sBI g c (sBox g p') / sInB c (sBox g p')) := by
      rw [show nI (sBI g c (sBox g p')) * (1000 : Int32) = nI (sBI g c (sBox g p') * 1000) from pk_mul _ 1000, pk_div (by omega) i0 (by omega), Nat.mul_comm]
    exact fin _ (by rw [if_pos ⟨d, by omega⟩]; exact ev)
theorem sErs_none {g : zg} {c : sC} {p : Nat} (hg : gOk g) (h : sErs g c p 9 = none) : sErs g c p (sMM g) = none := by
  have mm := sMM_pos hg
  cases e : sErs g c p (sMM g) with
  | none => rfl
  | some m =>
    have := sErs_more e (9 - sMM g)
    rw [show sMM g + (9 - sMM g) = 9 by omega, h] at this
    cases this
theorem w_errs {x : Int32} (h : wB g c fr nr rl ru nf fo en tx tn kp kc wa ro t I L) : zC G (n + 300) 284 [.ref 40, .int x] I L (zR1 q) (wPo G (n + 300) 109 [.ref 0, .int x] t) := by
  obtain ⟨hM, hC⟩ := h
  refine zin0 rfl rfl rfl (b284_0 (w_lay hC (fun I1 C1 hL ho => ?_)))
  have M1 := wM_lo hM (fun o z => ho o (by omega)) (fun _ _ => rfl)
  have hg := hL.1.1
  have g8 := hg.2.2.2.2.2.2.2.2
  have hin := M1.2.1.2
  have E : wE t (zup I1 0 34 0) L := wE_34 M1 C1 (by omega)
  have no : (∀ p, x = nI p → p < 2 ^ 31 → sR g p → sWork g p = g 8 → c.2.1 (sBox g p) = false) → wPo G (n + 300) 109 [.ref 0, .int x] t (some (.int (-1))) I1 L (zR1 q) := fun z => ⟨⟨_, rfl⟩, q, rfl, c_errs M1.1.1 M1.1.2 hin M1.2.1.1 (fun p e hr hw ho2 => absurd (z p e (sR_31 hg hr) hr hw) (by rw [ho2]; decide)) (fun _ => ⟨rfl, ⟨q, rfl⟩, E⟩)⟩
  refine k_slotOf hL (fun p e hr hw => ?_) (fun z => And.intro (fun _ => b284_31 (no (fun p e hp hr hw => absurd hw (z p e hp hr)))) (fun z2 => absurd (by decide) z2))
  have hw2 : sWork g p < 2 := by omega
  have hb := sB_box hg hr hw
  have bb := gR_box hg hr
  have sl1 := sl_lt hg hb
  have e1 : sSl g (g 8) (sBox g p) = sl g (sBox g p) := rfl
  rw [e1]
  have uq : ∀ p', x = nI p' → sR g p' → p' = p := fun p' e' hr' => sR_nI hg hr' hr (e'.symm.trans e)
  refine And.intro (fun z => absurd z (nI_pos (by omega))) (fun _ => k_isOpened (Or.inl ⟨rfl, rfl, rfl⟩) hg C1.2.2.1 hb ((fun z : _ ∧ _ => And.intro z.2 z.1) (zbo_eq (fun d => b284_31 (no (fun p' e' _ hr' _ => by rw [uq p' e' hr']; exact d))) (fun d => b284_33 ?_))))
  subst e
  have fin : ∀ v : Int32, v = zo2 (sErs g c p (sMM g)) → wPo G (n + 300) 109 [.ref 0, .int (nI p)] t (some (.int v)) I1 L (zR1 q) := fun v hv => ⟨⟨_, rfl⟩, q, rfl, c_errs M1.1.1 M1.1.2 hin M1.2.1.1 (fun p2 e2 hr2 _ _ => ⟨by rw [uq p2 e2 hr2, hv], ⟨q, rfl⟩, E⟩) (fun z => absurd (z p rfl (sR_31 hg hr) hr hw) (by rw [d]; decide))⟩
  refine k_legalL hL hr hw2 (k_bestL hL hr hw2 ?_)
  have lgl := sLg_lt g p
  have bsl := sBs_lt g p
  have mm := sMM_pos hg
  have key : ∀ j i : Nat, i + j = 9 → sErs g c p i = none → zQ G 284 (n + 299) (wPo G (n + 300) 109 [.ref 0, .int (nI p)] t) 56 [some (.ref 40), some (.int (nI p)), some (.int (nI (sl g (sBox g p)))), some (.int (nI (sLg g p) &&& (nI (sBs g p) ^^^ (-1)))), some (.int (nI i))] [] I1 L (zR1 q) := by
    intro j
    induction j with
    | zero =>
      intro i hi hs
      have e9 : i = 9 := by omega
      subst e9
      exact b284_56 (pk_le 9 9 (fun _ => b284_102 (fin _ (by rw [sErs_none hg hs]; rfl))) (fun z => absurd z (by omega)) rfl rfl (by omega) (by omega))
    | succ j ih =>
      intro i hi hs
      have hi9 : i < 9 := by omega
      have es : sErs g c p (i + 1) = if sCan g p i = true ∧ sBst g p i = false ∧ 0 < c.1 (sAtB g p i) then some i else none := by
        rw [sErs, hs]
      have nxt : ¬ (sCan g p i = true ∧ sBst g p i = false ∧ 0 < c.1 (sAtB g p i)) → zQ G 284 (n + 299) (wPo G (n + 300) 109 [.ref 0, .int (nI p)] t) 96 [some (.ref 40), some (.int (nI p)), some (.int (nI (sl g (sBox g p)))), some (.int (nI (sLg g p) &&& (nI (sBs g p) ^^^ (-1)))), some (.int (nI i))] [] I1 L (zR1 q) := fun w => by
        have qq := ih (i + 1) (by omega) (by rw [es, if_neg w])
        rw [← nI_1] at qq
        exact b284_96 qq
      refine b284_56 (pk_le 9 i (fun z => absurd z (by omega)) (fun _ => k_holdsX rfl (by omega) ?_) rfl rfl (by omega) (by omega))
      rw [k_andnot lgl bsl hi9, sLg_tb hg, sBs_tb hg]
      refine zbo_eq (fun w => nxt (fun w2 => by rw [w2.1, w2.2.1] at w; cases w)) (fun w => ?_)
      have hcan : sCan g p i = true := (Bool.and_eq_true_iff.mp w).1
      have hbst : sBst g p i = false := by
        have := (Bool.and_eq_true_iff.mp w).2
        cases e2 : sBst g p i with
        | false => rfl
        | true => rw [e2] at this; cases this
      have hmm := sCan_lt hcan
      have hml := sLeast_lt (b := sBox g p) hg (sLed_lt hg hmm (sTurnOf_lt g p))
      have h19 := sR_lt hg bb.1
      have hbd := (cAll_bd hin.1 (k := sAtB g p i) (by unfold sAtB; omega)).1
      have eAt : sAtB g p i = 9 * sBox g p + sLeast g (sBox g p) (sLed g i (sTurnOf g p)) := rfl
      refine k_kindP hL hr hw2 hcan (k_beadsOf (Or.inl ⟨rfl, rfl, rfl⟩) hg C1.2.2.1 hb (by omega) ?_)
      rw [← eAt]
      refine pk_le (c.1 (sAtB g p i)) 0 (fun z => nxt (fun w2 => by have := w2.2.2; omega)) (fun z => fin _ ?_) rfl rfl (by omega) (by omega)
      rw [if_pos ⟨hcan, hbst, z⟩] at es
      have := sErs_more es (sMM g - (i + 1))
      rw [show i + 1 + (sMM g - (i + 1)) = sMM g by omega] at this
      rw [this]
      rfl
  exact key 9 0 (by omega) rfl
end
