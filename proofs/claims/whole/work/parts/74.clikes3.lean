-- ===== the class: likes laid; what they tell =====
/-- the likes of the game, laid -/
def kLs (g : zg) (I : zI) : Prop := kLt g I ∧ kLi g (sSz g) I
def tLA (o k : Nat) : Bool := tTL o k || tMB o k || tDT o k || (Nat.beq o 51 && Nat.beq k 14)
theorem tLA_of {t : Nat → Nat → Bool} {I I' : zI} (h : zFr t I I') (ht : ∀ o k, tLA o k = false → t o k = false) : zFr tLA I I' := fun o k z => h o k (ht o k z)
theorem tLA_TL {I I' : zI} (h : zFr tTL I I') : zFr tLA I I' := tLA_of h fun o k z => by
  unfold tLA at z
  simp only [Bool.or_eq_false_iff] at z
  exact z.1.1.1
theorem tLA_MB {I I' : zI} (h : zFr tMB I I') : zFr tLA I I' := tLA_of h fun o k z => by
  unfold tLA at z
  simp only [Bool.or_eq_false_iff] at z
  exact z.1.1.2
theorem tLA_DT {I I' : zI} (h : zFr tDT I I') : zFr tLA I I' := tLA_of h fun o k z => by
  unfold tLA at z
  simp only [Bool.or_eq_false_iff] at z
  exact z.1.2
theorem sR_sz {g : zg} (hg : gOk g) {x : Nat} (h : sR g x) : x < sSz g := sIn_sz (sR_in hg h)
theorem sSl_sz {g : zg} (hg : gOk g) (s : Nat) : sSl g s 19683 = sSl g s (sSz g) := by
  have h := (sSz_le hg).2
  unfold sSl
  rw [show (19683 : Nat) = sSz g + (19683 - sSz g) by omega]
  refine sCB_more _ fun x hx => ?_
  rw [Bool.eq_false_iff]
  intro z
  have := sR_sz hg (sBxB_t.mp z).1
  omega
section
variable {G : zG} {n : Nat} {I : zI} {L : zL} {R : zR} {q : zq} {post : zPo} {g : zg}
theorem k_lay (hg : kG g I) (hj : I 51 1 = nI (g 7)) (ht : I 44 8 = 0 ∨ (I 44 8 = 1 ∧ kTb g I)) (hl : I 51 14 = 0 ∨ (I 51 14 = 1 ∧ kLs g I ∧ I 44 8 = 1)) (h : ∀ I' : zI, kTb g I' → kLs g I' → I' 44 8 = 1 → I' 51 14 = 1 → zFr tLA I I' → post none I' L (zR1 q)) : zC G (n + 5) 195 [.ref 51] I L (zR1 q) post := by
  have hsz := sSz_le hg.1
  refine zin0 rfl rfl rfl (b195_0 (k_tlay hg ht (fun I1 t1 l1 e1 f1 => ?_)))
  have f1' := tLA_TL f1
  show (I1 51 14 = 0 → _) ∧ (¬ I1 51 14 = 0 → _)
  rw [f1 51 14 rfl]
  rcases hl with c | ⟨c, hk, h8⟩
  · refine And.intro (fun _ => b195_15 (And.intro ⟨rfl, rfl⟩ ?_)) (fun z => absurd c z)
    have g1 : kG g (zup I1 51 14 1) := kG_of hg ((zup_ne (by decide)).trans (zFr_row f1 fun _ => rfl))
    have t1' : kTb g (zup I1 51 14 1) := kTb_of t1 (zup_ne (by decide)) (zup_ne (by decide)) (zup_ne (by decide)) (zup_ne (by decide)) (by rw [zup_ne (by decide)])
    refine k_drawTurns (n := n + 1) g1 (by rw [zup_k (by decide), f1 51 1 rfl]; exact hj) (fun I2 lt2 f2 => ?_)
    refine k_fill (m := 19683) rfl rfl (by decide) (fun I3 a3 o3 => k_fill (m := 19683) rfl rfl (by decide) (fun I4 a4 o4 => k_fill (m := 2) rfl rfl (by decide) (fun I5 a5 o5 => ?_)))
    have o235 : ∀ o, o ≠ 52 → o ≠ 54 → o ≠ 60 → I5 o = I2 o := fun o h1 h2 h3 => by rw [o5 o h3, o4 o h2, o3 o h1]
    have f5 : zFr tLA I I5 := by
      refine zFr_tr f1' (zFr_tr (zFr_up (zFr_0 tLA I1) (show tLA 51 14 = true from rfl)) (zFr_tr (tLA_DT f2) fun o k z => ?_))
      have n52 : o ≠ 52 := fun w => by subst w; cases z
      have n54 : o ≠ 54 := fun w => by subst w; cases z
      have n60 : o ≠ 60 := fun w => by subst w; cases z
      rw [o235 o n52 n54 n60]
    have loop : ∀ j p (J : zI), p + j = sSz g → kG g J → kTb g J → kLt g J → kLi g p J → J 44 8 = 1 → J 51 14 = 1 → zFr tLA I J → zQ G 195 (n + 4) post 50 [some (.ref 51), some (.int (nI p))] [] J L (zR1 q) := by
      intro j
      induction j with
      | zero =>
        intro p J hp gJ tJ lJ iJ w1 w2 fJ
        have ep : p = sSz g := by omega
        subst ep
        refine b195_50 (k_size ?_)
        rw [tJ.2.2.2]
        exact pk_le (sSz g) (sSz g) (fun _ => b195_92 (h J tJ ⟨lJ, iJ⟩ w1 w2 fJ)) (fun z => absurd z (by omega)) rfl rfl (by omega) (by omega)
      | succ j ih =>
        intro p J hp gJ tJ lJ iJ w1 w2 fJ
        have hp19 : p < 19683 := by omega
        have nxt : ∀ (J' : zI), kLi g (p + 1) J' → zFr tMB J J' → zQ G 195 (n + 4) post 86 [some (.ref 51), some (.int (nI p))] [] J' L (zR1 q) := by
          intro J' i' f'
          refine b195_86 ?_
          have qq := ih (p + 1) J' (by omega) (kG_of gJ (zFr_row f' fun _ => rfl)) (kTb_of tJ (zFr_row f' fun _ => rfl) (zFr_row f' fun _ => rfl) (zFr_row f' fun _ => rfl) (zFr_row f' fun _ => rfl) (f' 44 7 rfl)) (kLt_of lJ (f' 51 13 rfl) (zFr_row f' fun _ => rfl) (zFr_row f' fun _ => rfl)) i' ((f' 44 8 rfl).trans w1) ((f' 51 14 rfl).trans w2) (zFr_tr fJ (tLA_MB f'))
          rw [← nI_1] at qq
          exact qq
        have skip : ¬ (sR g p ∧ sWork g p < 2 ∧ sBox g p = p) → zQ G 195 (n + 4) post 86 [some (.ref 51), some (.int (nI p))] [] J L (zR1 q) := by
          intro hn
          refine nxt J ?_ (zFr_0 _ _)
          obtain ⟨i1, i2, i3⟩ := iJ
          refine ⟨fun x hx => ⟨fun r1 r2 r3 => ?_, fun r => (i1 x hx).2 fun z => r ⟨z.1, z.2.1, by omega⟩⟩, fun b hb r1 r2 r3 => i2 b ?_ r1 r2 r3, fun s hs => ?_⟩
          · refine (i1 x hx).1 r1 r2 ?_
            by_cases w : sBox g x = p
            · exfalso
              have bb := gR_box gJ.1 r1
              rw [w] at bb
              exact hn ⟨bb.1, by omega, by have := sBox_box gJ.1 r1; rw [w] at this; exact this⟩
            · omega
          · by_cases w : b = p
            · subst w
              exact absurd ⟨r1, r2, r3⟩ hn
            · omega
          · rw [i3 s hs]
            unfold sSl
            rw [sCB, if_neg (fun z => by
              obtain ⟨z1, z2, z3⟩ := sBxB_t.mp z
              exact hn ⟨z1, by omega, z3⟩)]
            rfl
        refine b195_50 (k_size ?_)
        rw [tJ.2.2.2]
        refine pk_le (sSz g) p (fun z => absurd z (by omega)) (fun _ => k_goesOn (fun p' hp' e hst => And.intro (fun z => absurd z (by decide)) (fun _ => And.intro (vp_in_nI hp19 (by decide)) ?_)) (fun hst => And.intro (fun _ => skip ?_) (fun z => absurd rfl z))) rfl rfl (by omega) (by omega)
        · have epp : p = p' := nI_inj (by omega) (by omega) e
          subst epp
          have hrw : sR g p ∧ sWork g p < 2 := by
            rcases tJ.1 p hp19 with ⟨r1, r2⟩ | ⟨r1, r2⟩
            · refine ⟨r1, ?_⟩
              rw [r2] at hst
              have := sWork_le g p
              rcases hst with z | z
              · have := (nI_eq (b := 0) (by omega) (by omega)).mp z
                omega
              · have := (nI_eq (b := 1) (by omega) (by omega)).mp z
                omega
            · rw [r2] at hst
              rcases hst with z | z <;> exact absurd z (by decide)
          obtain ⟨hr, hw⟩ := hrw
          rw [nI_clamp (by omega)]
          have hle := sBox_le g p
          by_cases w : sBox g p = p
          · rw [((iJ.1 p hp19).2 fun z => by omega).1]
            exact And.intro (fun z => absurd z (by decide)) (fun _ => k_makeBox (n := n + 1) gJ tJ lJ iJ hr hw w nxt)
          · rw [((iJ.1 p hp19).1 hr hw (by omega)).1]
            exact And.intro (fun _ => skip fun z => w z.2.2) (fun z => absurd (nI_pos' (by omega)) z)
        · rintro ⟨r1, r2, -⟩
          obtain ⟨n0, n1⟩ := hst p hp19 rfl
          rcases tJ.1 p hp19 with ⟨-, e⟩ | ⟨z, -⟩
          · rw [e] at n0 n1
            rcases (show sWork g p = 0 ∨ sWork g p = 1 by omega) with z | z
            · rw [z] at n0
              exact n0 rfl
            · rw [z] at n1
              exact n1 rfl
          · exact z r1
    refine loop (sSz g) 0 I5 (by omega) (kG_of g1 ((o235 45 (by decide) (by decide) (by decide)).trans (zFr_row f2 fun _ => rfl))) (kTb_of t1' ((o235 46 (by decide) (by decide) (by decide)).trans (zFr_row f2 fun _ => rfl)) ((o235 47 (by decide) (by decide) (by decide)).trans (zFr_row f2 fun _ => rfl)) ((o235 48 (by decide) (by decide) (by decide)).trans (zFr_row f2 fun _ => rfl)) ((o235 49 (by decide) (by decide) (by decide)).trans (zFr_row f2 fun _ => rfl)) (by rw [o235 44 (by decide) (by decide) (by decide)]; exact f2 44 7 rfl)) (kLt_of lt2 (by rw [o235 51 (by decide) (by decide) (by decide)]) (o235 57 (by decide) (by decide) (by decide)) (o235 58 (by decide) (by decide) (by decide))) ⟨fun x hx => ⟨fun _ _ z => absurd z (Nat.not_lt_zero _), fun _ => ⟨?_, ?_⟩⟩, fun b hb => absurd hb (Nat.not_lt_zero _), fun s hs => ?_⟩ ?_ ?_ f5
    · rw [o5 52 (by decide), o4 52 (by decide)]
      exact a3 x hx
    · rw [o5 54 (by decide)]
      exact a4 x hx
    · rw [a5 s (by omega)]
      rfl
    · rw [o235 44 (by decide) (by decide) (by decide), f2 44 8 rfl, zup_ne (by decide)]
      exact l1
    · rw [o235 51 (by decide) (by decide) (by decide), f2 51 14 rfl, zup_self]
  · have eI := e1 h8
    subst eI
    exact And.intro (fun z => absurd (c.symm.trans z) (by decide)) (fun _ => h I1 t1 hk l1 c f1')
/-- table and likes, laid -/
def kLay (g : zg) (I : zI) : Prop := kG g I ∧ kTb g I ∧ kLs g I ∧ I 51 2 = nI (g 8)
def tLay (o : Nat) : Bool := Nat.blt o 44 || Nat.blt 61 o
theorem kLay_of {I' : zI} (h : kLay g I) (ho : ∀ o, 44 ≤ o → o ≤ 61 → I' o = I o) : kLay g I' := by
  obtain ⟨h1, h2, h3, h4⟩ := h
  refine ⟨kG_of h1 (ho 45 (by decide) (by decide)), kTb_of h2 (ho 46 (by decide) (by decide)) (ho 47 (by decide) (by decide)) (ho 48 (by decide) (by decide)) (ho 49 (by decide) (by decide)) (by rw [ho 44 (by decide) (by decide)]), ⟨kLt_of h3.1 (by rw [ho 51 (by decide) (by decide)]) (ho 57 (by decide) (by decide)) (ho 58 (by decide) (by decide)), kLi_of h3.2 (ho 52 (by decide) (by decide)) (ho 53 (by decide) (by decide)) (ho 54 (by decide) (by decide)) (ho 55 (by decide) (by decide)) (ho 56 (by decide) (by decide)) (ho 59 (by decide) (by decide)) (ho 60 (by decide) (by decide))⟩, ?_⟩
  rw [ho 51 (by decide) (by decide)]
  exact h4
/-- of a reached position that goes on -/
theorem kLay_R (h : kLay g I) {p : Nat} (hr : sR g p) (hw : sWork g p < 2) : I 46 p = nI (sMov g p) ∧ I 47 p = nI (sLg g p) ∧ I 48 p = nI (sVal g p) ∧ I 49 p = nI (sBs g p) ∧ I 52 p = nI (sBox g p) ∧ I 53 p = nI (sTurnOf g p) ∧ I 54 p = nI (2 * sSl g (sWork g p) (sBox g p) + sWork g p) := by
  have hg := h.1.1
  have h19 := sR_lt hg hr
  obtain ⟨a1, a2, a3⟩ := h.2.1.2.1 p h19 hr hw
  obtain ⟨b1, b2, b3⟩ := (h.2.2.1.2.1 p h19).1 hr hw (Nat.lt_of_le_of_lt (sBox_le g p) (sR_sz hg hr))
  refine ⟨?_, a1, a2, a3, b1, b3, b2⟩
  rcases h.2.1.1 p h19 with z | z
  · rw [z.2, sWork_mov hw]
  · exact absurd hr z.1
theorem kLay_st (h : kLay g I) {p : Nat} (hr : sR g p) : I 46 p = nI (sWork g p) := by
  rcases h.2.1.1 p (sR_lt h.1.1 hr) with z | z
  · exact z.2
  · exact absurd hr z.1
theorem kLay_B (h : kLay g I) {b : Nat} (hr : sR g b) (hw : sWork g b < 2) (hb : sBox g b = b) : I 55 b = nI (sSt g b) ∧ I 56 b = nI (sKd g b) ∧ I 59 (2423 * sWork g b + sSl g (sWork g b) b) = nI b := h.2.2.1.2.2.1 b (sR_sz h.1.1 hr) hr hw hb
theorem k_stateL {x : Int32} (hL : kLay g I) (h1 : ∀ p, x = nI p → sR g p → post (some (.int (nI (sWork g p)))) I L (zR1 q)) (h0 : (∀ p, x = nI p → p < 2 ^ 31 → ¬ sR g p) → post (some (.int (-1))) I L (zR1 q)) : zC G (n + 1) 216 [.ref 44, .int x] I L (zR1 q) post := by
  refine k_stateOf (fun p hp e => ?_) (fun ho => h0 fun p e hp hr => absurd ho (xOut_no (sR_lt hL.1.1 hr) (by decide) e))
  rcases hL.2.1.1 p hp with z | z
  · rw [z.2]
    exact h1 p e z.1
  · rw [z.2]
    refine h0 fun p' e' hp' hr => ?_
    have : p = p' := nI_inj (by omega) hp' (e.symm.trans e')
    exact z.1 (this ▸ hr)
theorem k_goesOnL {x : Int32} (hL : kLay g I) (h1 : ∀ p, x = nI p → sR g p → sWork g p < 2 → post (some (.int 1)) I L (zR1 q)) (h0 : (∀ p, x = nI p → p < 2 ^ 31 → sR g p → 2 ≤ sWork g p) → post (some (.int 0)) I L (zR1 q)) : zC G (n + 1) 217 [.ref 44, .int x] I L (zR1 q) post := by
  refine k_goesOn (fun p hp e hst => ?_) (fun hst => h0 fun p e hp hr => ?_)
  · rcases hL.2.1.1 p hp with ⟨r1, r2⟩ | ⟨r1, r2⟩
    · refine h1 p e r1 ?_
      rw [r2] at hst
      have := sWork_le g p
      rcases hst with z | z
      · have := (nI_eq (b := 0) (by omega) (by omega)).mp z
        omega
      · have := (nI_eq (b := 1) (by omega) (by omega)).mp z
        omega
    · rw [r2] at hst
      rcases hst with z | z <;> exact absurd z (by decide)
  · obtain ⟨n0, n1⟩ := hst p (sR_lt hL.1.1 hr) e
    rw [kLay_st hL hr] at n0 n1
    rcases (show sWork g p = 0 ∨ sWork g p = 1 ∨ 2 ≤ sWork g p by omega) with z | z | z
    · rw [z] at n0
      exact absurd rfl n0
    · rw [z] at n1
      exact absurd rfl n1
    · exact z
theorem k_nextL {p m : Nat} (hL : kLay g I) (hr : sR g p) (hw : sWork g p < 2) (hc : sCan g p m = true) (h : post (some (.int (nI (sBeh g p m)))) I L (zR1 q)) : zC G (n + 1) 222 [.ref 44, .int (nI p), .int (nI m)] I L (zR1 q) post := k_next hL.1 (sR_lt hL.1.1 hr) (kLay_R hL hr hw).1 hc h
theorem k_legalL {p : Nat} (hL : kLay g I) (hr : sR g p) (hw : sWork g p < 2) (h : post (some (.int (nI (sLg g p)))) I L (zR1 q)) : zC G (n + 1) 218 [.ref 44, .int (nI p)] I L (zR1 q) post := k_legalAt (sR_lt hL.1.1 hr) (by rw [(kLay_R hL hr hw).2.1]; exact h)
theorem k_bestL {p : Nat} (hL : kLay g I) (hr : sR g p) (hw : sWork g p < 2) (h : post (some (.int (nI (sBs g p)))) I L (zR1 q)) : zC G (n + 1) 219 [.ref 44, .int (nI p)] I L (zR1 q) post := k_bestAt (sR_lt hL.1.1 hr) (by rw [(kLay_R hL hr hw).2.2.2.1]; exact h)
theorem k_worthToL {p s : Nat} (hL : kLay g I) (hr : sR g p) (hs : s ≤ 1) (h : post (some (.int (nI (sWT (sWork g p) (sVal g p) s)))) I L (zR1 q)) : zC G (n + 1) 223 [.ref 44, .int (nI p), .int (nI s)] I L (zR1 q) post := k_worthTo (sR_lt hL.1.1 hr) (sWork_le _ _) hs (kLay_st hL hr) (fun hw => ⟨(kLay_R hL hr hw).2.2.1, sVal_le _ _⟩) h
theorem k_stonesL {p : Nat} (hL : kLay g I) (hr : sR g p) (hw : sWork g p < 2) (h : post (some (.int (nI (sStn g p)))) I L (zR1 q)) : zC G (n + 2) 221 [.ref 44, .int (nI p)] I L (zR1 q) post := k_stonesOf hL.1 (sR_lt hL.1.1 hr) (sR_ok hL.1.1 hr).2 (fun _ => (kLay_R hL hr hw).2.1) h
theorem k_boxOf {x : Int32} (hL : kLay g I) (h1 : ∀ p, x = nI p → sR g p → sWork g p < 2 → post (some (.int (nI (sBox g p)))) I L (zR1 q)) (h0 : (∀ p, x = nI p → p < 2 ^ 31 → sR g p → 2 ≤ sWork g p) → post (some (.int (-1))) I L (zR1 q)) : zC G (n + 1) 187 [.ref 51, .int x] I L (zR1 q) post := by
  have no : ∀ {y : Int32}, xOut x 19683 → post (some (.int (-1))) I L (zR1 q) := fun c => h0 fun p e hp hr => absurd c (xOut_no (sR_lt hL.1.1 hr) (by decide) e)
  refine zin0 rfl rfl rfl (b187_0 ?_)
  rcases pk_ix x (n := 19683) (by decide) with c | c | ⟨p, hp, rfl⟩
  · exact And.intro (fun _ => b187_22 (b187_23 (no (y := 0) (.inl c)))) (fun z => absurd c z)
  · exact And.intro (fun z => b187_22 (b187_23 (no (y := 0) (.inl z)))) (fun _ => And.intro (fun _ => b187_22 (b187_23 (no (y := 0) (.inr c)))) (fun z => absurd c z))
  · refine And.intro (fun z => absurd z (nI_pos (by omega))) (fun _ => pk_le 19683 p (fun z => absurd z (by omega)) (fun _ => And.intro (vp_in_nI hp (by decide)) (b187_23 ?_)) rfl rfl (by omega) (by omega))
    rw [nI_clamp (by omega)]
    by_cases c : sR g p ∧ sWork g p < 2
    · rw [(kLay_R hL c.1 c.2).2.2.2.2.1]
      exact h1 p rfl c.1 c.2
    · rw [((hL.2.2.1.2.1 p hp).2 fun z => c ⟨z.1, z.2.1⟩).1]
      refine h0 fun p' e hp' hr => ?_
      have : p = p' := nI_inj (by omega) hp' e
      subst this
      rcases Nat.lt_or_ge (sWork g p) 2 with z | z
      · exact absurd ⟨hr, z⟩ c
      · exact z
theorem k_slotOf {x : Int32} (hL : kLay g I) (h1 : ∀ p, x = nI p → sR g p → sWork g p = g 8 → post (some (.int (nI (sSl g (g 8) (sBox g p))))) I L (zR1 q)) (h0 : (∀ p, x = nI p → p < 2 ^ 31 → sR g p → sWork g p ≠ g 8) → post (some (.int (-1))) I L (zR1 q)) : zC G (n + 1) 188 [.ref 51, .int x] I L (zR1 q) post := by
  have g8 := hL.1.1.2.2.2.2.2.2.2.2
  have no : xOut x 19683 → post (some (.int (-1))) I L (zR1 q) := fun c => h0 fun p e hp hr => absurd c (xOut_no (sR_lt hL.1.1 hr) (by decide) e)
  have neg : ∀ (y : Int32), zQ G 188 n post 44 [some (.ref 51), some (.int x), some (.int y)] [] I L (zR1 q) → zQ G 188 n post 44 [some (.ref 51), some (.int x), some (.int y)] [] I L (zR1 q) := fun _ h => h
  have out : xOut x 19683 → zQ G 188 n post 22 [some (.ref 51), some (.int x), none] [] I L (zR1 q) := fun c => b188_22 (b188_23 (And.intro (fun _ => b188_44 (b188_45 (no c))) (fun z => absurd (by decide) z)))
  refine zin0 rfl rfl rfl (b188_0 ?_)
  rcases pk_ix x (n := 19683) (by decide) with c | c | ⟨p, hp, rfl⟩
  · exact And.intro (fun _ => out (.inl c)) (fun z => absurd c z)
  · exact And.intro (fun z => out (.inl z)) (fun _ => And.intro (fun _ => out (.inr c)) (fun z => absurd c z))
  · refine And.intro (fun z => absurd z (nI_pos (by omega))) (fun _ => pk_le 19683 p (fun z => absurd z (by omega)) (fun _ => And.intro (vp_in_nI hp (by decide)) (b188_23 ?_)) rfl rfl (by omega) (by omega))
    rw [nI_clamp (by omega)]
    by_cases c : sR g p ∧ sWork g p < 2
    · have bb := gR_box hL.1.1 c.1
      have hsl := sSl_lt hL.1.1 (s := sWork g p) (b := sBox g p) (by omega) (sBxB_t.mpr ⟨bb.1, bb.2.1, sBox_box hL.1.1 c.1⟩)
      rw [(kLay_R hL c.1 c.2).2.2.2.2.2.2]
      refine And.intro (fun z => absurd z (nI_pos (by omega))) (fun _ => ?_)
      have e1 : nI (2 * sSl g (sWork g p) (sBox g p) + sWork g p) &&& 1 = nI (sWork g p) := by
        rw [pk_andN (by omega) 1 rfl]
        congr 1
        omega
      have e2 : nI (2 * sSl g (sWork g p) (sBox g p) + sWork g p) >>> ((1 : Int32) &&& 31) = nI (sSl g (sWork g p) (sBox g p)) := by
        rw [pk_shrN (by omega) _ 1 (by decide)]
        congr 1
        omega
      show (¬ (nI (2 * sSl g (sWork g p) (sBox g p) + sWork g p) &&& 1) = I 51 2 → _) ∧ ((nI (2 * sSl g (sWork g p) (sBox g p) + sWork g p) &&& 1) = I 51 2 → _)
      rw [e1, hL.2.2.2]
      refine pk_ne (sWork g p) (g 8) (fun d => b188_44 (b188_45 (h0 fun p' e hp' hr => ?_))) (fun d => b188_45 ?_) rfl rfl (by omega) (by omega)
      · have : p = p' := nI_inj (by omega) hp' e
        subst this
        exact d
      · rw [e2, d]
        exact h1 p rfl c.1 d
    · rw [((hL.2.2.1.2.1 p hp).2 fun z => c ⟨z.1, z.2.1⟩).2]
      refine And.intro (fun _ => b188_44 (b188_45 (h0 fun p' e hp' hr z => ?_))) (fun z => absurd (by decide) z)
      have : p = p' := nI_inj (by omega) hp' e
      subst this
      exact c ⟨hr, by omega⟩
theorem k_slotP {p : Nat} (hL : kLay g I) (hr : sR g p) (hw : sWork g p = g 8) (h : post (some (.int (nI (sSl g (g 8) (sBox g p))))) I L (zR1 q)) : zC G (n + 1) 188 [.ref 51, .int (nI p)] I L (zR1 q) post := k_slotOf hL (fun p' e hr' _ => by
  have := nI_inj (by have := sR_lt hL.1.1 hr; omega) (by have := sR_lt hL.1.1 hr'; omega) e
  subst this
  exact h) (fun hn => absurd hw (hn p rfl (by have := sR_lt hL.1.1 hr; omega) hr))
theorem k_boxCount (hL : kLay g I) (h : post (some (.int (nI (sSl g (g 8) 19683)))) I L (zR1 q)) : zC G (n + 1) 189 [.ref 51] I L (zR1 q) post := by
  have g8 := hL.1.1.2.2.2.2.2.2.2.2
  have go : zQ G 189 n post 15 [some (.ref 51)] [] I L (zR1 q) := by
    refine b189_15 ?_
    show vp_in (I 51 2) 2 ∧ _
    rw [hL.2.2.2]
    refine And.intro (vp_in_nI (show g 8 < 2 by omega) (by decide)) (b189_28 ?_)
    rw [nI_clamp (by omega), hL.2.2.1.2.2.2 (g 8) g8, ← sSl_sz hL.1.1]
    exact h
  refine zin0 rfl rfl rfl (b189_0 ?_)
  show (I 51 2 = 0 → _) ∧ (¬ I 51 2 = 0 → (¬ I 51 2 = 1 → _) ∧ (I 51 2 = 1 → _))
  rw [hL.2.2.2]
  exact pk_eq (g 8) 0 (fun _ => go) (fun c => pk_ne (g 8) 1 (fun z => absurd z (by omega)) (fun _ => go) rfl rfl (by omega) (by omega)) rfl rfl (by omega) (by omega)
theorem k_boxAt {b : Nat} (hL : kLay g I) (hb : sBxB g (g 8) b = true) (h : post (some (.int (nI b))) I L (zR1 q)) : zC G (n + 2) 190 [.ref 51, .int (nI (sSl g (g 8) b))] I L (zR1 q) post := by
  have g8 := hL.1.1.2.2.2.2.2.2.2.2
  obtain ⟨h1, h2, h3⟩ := sBxB_t.mp hb
  have hlt := sSl_lt hL.1.1 g8 hb
  have hle := sCB_lt hb 19683 (sR_lt hL.1.1 h1)
  have hbd := sBxB_n hL.1.1 g8
  have e1 : nI (g 8) * 2423 + nI (sSl g (g 8) b) = nI (2423 * g 8 + sSl g (g 8) b) := by rw [show (2423 : Int32) = nI 2423 from rfl, pk_mul, nI_add, Nat.mul_comm]
  refine zin0 rfl rfl rfl (b190_0 (And.intro (fun z => absurd z (nI_pos (by omega))) (fun _ => k_boxCount hL ?_)))
  refine pk_le (sSl g (g 8) 19683) (sSl g (g 8) b) (fun z => by unfold sSl at z; omega) (fun _ => ?_) rfl rfl (by unfold sSl; omega) (by omega)
  show vp_in (I 51 2 * 2423 + nI (sSl g (g 8) b)) 4846 ∧ _
  rw [hL.2.2.2, e1]
  refine And.intro (vp_in_nI (by omega) (by decide)) (b190_31 ?_)
  have q3 := (kLay_B hL h1 (by omega) h3).2.2
  rw [h2] at q3
  rw [nI_clamp (by omega), q3]
  exact h
theorem k_kindsAt {p : Nat} (hL : kLay g I) (hr : sR g p) (hw : sWork g p < 2) (h : post (some (.int (nI (sKd g (sBox g p))))) I L (zR1 q)) : zC G (n + 1) 191 [.ref 51, .int (nI p)] I L (zR1 q) post := by
  have h19 := sR_lt hL.1.1 hr
  have bb := gR_box hL.1.1 hr
  have b19 := sR_lt hL.1.1 bb.1
  refine zin0 rfl rfl rfl (b191_0 (And.intro (fun z => absurd z (nI_pos (by omega))) (fun _ => pk_le 19683 p (fun z => absurd z (by omega)) (fun _ => And.intro (vp_in_nI h19 (by decide)) (b191_23 ?_)) rfl rfl (by omega) (by omega))))
  rw [nI_clamp (by omega), (kLay_R hL hr hw).2.2.2.2.1]
  refine And.intro (fun z => absurd z (nI_pos (by omega))) (fun _ => pk_le 19683 (sBox g p) (fun z => absurd z (by omega)) (fun _ => And.intro (vp_in_nI b19 (by decide)) (b191_47 ?_)) rfl rfl (by omega) (by omega))
  rw [nI_clamp (by omega), (kLay_B hL bb.1 (by omega) (sBox_box hL.1.1 hr)).2.1]
  exact h
/-- a move of a position that goes on -/
def xMove (g : zg) (x y : Int32) (p m : Nat) : Prop := x = nI p ∧ y = nI m ∧ m < 2 ^ 31 ∧ sR g p ∧ sWork g p < 2 ∧ sCan g p m = true
theorem k_kindOf {x y : Int32} (hL : kLay g I) (h1 : ∀ p m, xMove g x y p m → post (some (.int (nI (sLeast g (sBox g p) (sLed g m (sTurnOf g p)))))) I L (zR1 q)) (h0 : (∀ p m, p < 2 ^ 31 → ¬ xMove g x y p m) → post (some (.int (-1))) I L (zR1 q)) : zC G (n + 3) 192 [.ref 51, .int x, .int y] I L (zR1 q) post := by
  have hmm := sMM_pos hL.1.1
  refine zin0 rfl rfl rfl (b192_0 (k_boxOf hL (fun p e hr hw => ?_) (fun hn => And.intro (fun _ => b192_35 (h0 fun p m hp z => ?_)) (fun z => absurd (by decide) z))))
  · subst e
    have h19 := sR_lt hL.1.1 hr
    have bb := gR_box hL.1.1 hr
    have b19 := sR_lt hL.1.1 bb.1
    refine And.intro (fun z => absurd z (nI_pos (by omega))) (fun _ => ?_)
    rcases pk_ix y (n := 9) (by decide) with c | c | ⟨m, hm, rfl⟩
    · exact And.intro (fun _ => b192_35 (h0 fun p m hp z => by rw [z.2.1] at c; exact nI_pos z.2.2.1 c)) (fun z => absurd c z)
    · exact And.intro (fun z => b192_35 (h0 fun p m hp w => by rw [w.2.1] at z; exact nI_pos w.2.2.1 z)) (fun _ => And.intro (fun _ => b192_35 (h0 fun p m hp w => by
        have := sCan_9 hL.1.1 w.2.2.2.2.2
        rw [w.2.1] at c
        have := (nI_leI (a := 9) (by omega) w.2.2.1).mp c
        omega)) (fun z => absurd c z))
    · refine And.intro (fun z => absurd z (nI_pos (by omega))) (fun _ => pk_le 9 m (fun z => absurd z (by omega)) (fun _ => k_legalL hL hr hw (k_holds rfl (by have := sLg_lt g p; omega) rfl (by omega) ?_)) rfl rfl (by omega) (by omega))
      rw [sLg_tb hL.1.1]
      refine zbo_ne (fun c => b192_37 ?_) (fun c => b192_35 (h0 fun p' m' hp' w => ?_))
      · have ht := sTurnOf_lt g p
        have hts := sTurns_le g
        have hlt := sCan_lt c
        refine And.intro (vp_in_nI h19 (by decide)) ?_
        rw [nI_clamp (by omega), (kLay_R hL hr hw).2.2.2.2.2.1]
        have e1 : nI (sTurnOf g p) * 9 + nI m = nI (9 * sTurnOf g p + m) := by rw [show (9 : Int32) = nI 9 from rfl, pk_mul, nI_add, Nat.mul_comm]
        refine And.intro (by rw [e1]; exact vp_in_nI (by omega) (by decide)) ?_
        rw [e1, nI_clamp (by omega), (hL.2.2.1.1.2 _ m (by omega) hm).1, kLed_led hL.1.1 ht hlt]
        exact k_leastLike hL.1.1 hL.2.2.1.1 (kLay_B hL bb.1 (by omega) (sBox_box hL.1.1 hr)).1 b19 (sLed_lt hL.1.1 hlt ht) (h1 p m ⟨rfl, rfl, by omega, hr, hw, c⟩)
      · have e1 := nI_inj (by omega) hp' w.1
        have e2 := nI_inj (by omega) w.2.2.1 w.2.1
        subst e1 e2
        rw [w.2.2.2.2.2] at c
        cases c
  · have := hn p z.1 hp z.2.2.2.1
    have := z.2.2.2.2.1
    omega
theorem k_kindP {p m : Nat} (hL : kLay g I) (hr : sR g p) (hw : sWork g p < 2) (hc : sCan g p m = true) (h : post (some (.int (nI (sLeast g (sBox g p) (sLed g m (sTurnOf g p)))))) I L (zR1 q)) : zC G (n + 3) 192 [.ref 51, .int (nI p), .int (nI m)] I L (zR1 q) post := by
  have hm := sCan_9 hL.1.1 hc
  have hp := sR_lt hL.1.1 hr
  refine k_kindOf hL (fun p' m' w => ?_) (fun hn => absurd ⟨rfl, rfl, by omega, hr, hw, hc⟩ (hn p m (by omega)))
  have e1 := nI_inj (by omega) (by have := sR_lt hL.1.1 w.2.2.2.1; omega) w.1
  have e2 := nI_inj (by omega) w.2.2.1 w.2.1
  subst e1 e2
  exact h
theorem k_moveBack {p k : Nat} (hL : kLay g I) (hr : sR g p) (hw : sWork g p < 2) (hk : k < 9) (h : ∀ v, v < 9 → (k < sMM g → v = sMv g p k) → post (some (.int (nI v))) I L (zR1 q)) : zC G (n + 1) 193 [.ref 51, .int (nI p), .int (nI k)] I L (zR1 q) post := by
  have h19 := sR_lt hL.1.1 hr
  have bb := gR_box hL.1.1 hr
  have b19 := sR_lt hL.1.1 bb.1
  have ht := sTurnOf_lt g p
  have hts := sTurns_le g
  have hmm := sMM_pos hL.1.1
  have key : ∃ v, v < 9 ∧ kLed g (sTurnOf g p) v = k ∧ (k < sMM g → v = sMv g p k) := by
    by_cases c : k < sMM g
    · obtain ⟨o1, o2, o3⟩ := sMv_ok hL.1.1 (p := p) c
      exact ⟨sMv g p k, by omega, by rw [kLed_led hL.1.1 ht o2]; exact o3, fun _ => rfl⟩
    · refine ⟨k, hk, ?_, fun z => absurd z c⟩
      unfold kLed
      rcases g0_01 hL.1.1 with w | w
      · rw [sMM_bd w] at c
        rw [if_pos (by omega)]
      · rw [if_pos (.inl w)]
  obtain ⟨v, v9, ev, em⟩ := key
  have e1 : nI (sTurnOf g p) * 9 + nI k = nI (9 * sTurnOf g p + k) := by rw [show (9 : Int32) = nI 9 from rfl, pk_mul, nI_add, Nat.mul_comm]
  refine zin0 rfl rfl rfl (b193_0 (And.intro (fun z => absurd z (nI_pos (by omega))) (fun _ => pk_le 19683 p (fun z => absurd z (by omega)) (fun _ => And.intro (vp_in_nI h19 (by decide)) ?_) rfl rfl (by omega) (by omega))))
  rw [nI_clamp (by omega), (kLay_R hL hr hw).2.2.2.2.1]
  refine And.intro (fun z => absurd z (nI_pos (by omega))) (fun _ => And.intro (fun z => absurd z (nI_pos (by omega))) (fun _ => pk_le 9 k (fun z => absurd z (by omega)) (fun _ => b193_37 (And.intro (fun z => absurd z (by decide)) (fun _ => And.intro (vp_in_nI h19 (by decide)) ?_))) rfl rfl (by omega) (by omega)))
  rw [nI_clamp (by omega), (kLay_R hL hr hw).2.2.2.2.2.1]
  refine And.intro (by rw [e1]; exact vp_in_nI (by omega) (by decide)) (b193_62 ?_)
  have q8 := (hL.2.2.1.1.2 (sTurnOf g p) v (by omega) v9).2
  rw [ev] at q8
  rw [e1, nI_clamp (by omega), q8]
  exact h v v9 em
end
