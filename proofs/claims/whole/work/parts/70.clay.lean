-- ===== the class: weighing, laying the table =====
theorem sMx_eq {f : Nat → Nat} {x : Nat} : ∀ n, (∃ j, j < n ∧ f j = x) → (∀ j, j < n → f j ≤ x) → sMx f n = x
  | 0, ⟨j, hj, _⟩, _ => absurd hj (Nat.not_lt_zero _)
  | n + 1, ⟨j, hj, he⟩, h => by
    have hle : ∀ n', (∀ j, j < n' → f j ≤ x) → sMx f n' ≤ x := by
      intro n'
      induction n' with
      | zero => intro _; exact Nat.zero_le _
      | succ n' ih => intro h'; exact Nat.max_le.mpr ⟨ih (fun j hj => h' j (by omega)), h' n' (by omega)⟩
    rw [sMx]
    by_cases c : j = n
    · subst c
      rw [he]
      exact Nat.max_eq_right (hle j (fun i hi => h i (by omega)))
    · rw [sMx_eq n ⟨j, by omega, he⟩ (fun i hi => h i (by omega))]
      exact Nat.max_eq_left (h n (by omega))
theorem sWth_WT {g : zg} {p m : Nat} (hg : gOk g) (hc : sCan g p m = true) (v : Nat → Nat) : sWT (sWork g (sBeh g p m)) (v (sBeh g p m)) (sMov g p) = sWth g v p m := by
  have e := sMov_beh hg hc
  have hmv := sMov_le g p
  unfold sWT sWth
  by_cases c : sWork g (sBeh g p m) < 2
  · have e2 := sWork_mov c
    rw [if_pos c, if_pos c, if_neg (by omega)]
  · rw [if_neg c, if_neg c]
/-- the greatest worth among the first moves, and which have it -/
def wInv (g : zg) (p m : Nat) (mx : Option Nat) (best : Nat) : Prop := (mx = none → ∀ j, j < m → sCan g p j = false) ∧ (∀ x, mx = some x → x ≤ 2 ∧ (∃ j, j < m ∧ sCan g p j = true ∧ sWth g (sVal g) p j = x) ∧ ∀ j, j < m → sCan g p j = true → sWth g (sVal g) p j ≤ x) ∧ best = sFB (fun j => sCan g p j && decide (mx = some (sWth g (sVal g) p j))) m
theorem wInv_end {g : zg} {p best : Nat} {mx : Option Nat} (hg : gOk g) (hw : sWork g p < 2) (h : wInv g p 9 mx best) : mx = some (sVal g p) ∧ best = sBs g p := by
  obtain ⟨h1, h2, h3⟩ := h
  obtain ⟨m, hm⟩ := sCan_some hg hw
  have hmm := sMM_pos hg
  have e : mx = some (sVal g p) := by
    cases mx with
    | none =>
      have := h1 rfl m (sCan_9 hg hm)
      rw [hm] at this
      cases this
    | some x =>
      obtain ⟨-, ⟨j, hj, hc, he⟩, hle⟩ := h2 x rfl
      congr 1
      rw [sVal_eq hg p]
      refine (sMx_eq _ ⟨j, sCan_lt hc, by rw [if_pos hc]; exact he⟩ fun i hi => ?_).symm
      by_cases ci : sCan g p i = true
      · rw [if_pos ci]
        exact hle i (by omega) ci
      · rw [if_neg ci]
        exact Nat.zero_le _
  refine ⟨e, ?_⟩
  rw [h3, e]
  unfold sBs
  refine sFB_ext 9 fun j _ => ?_
  unfold sBst
  congr 1
  exact decide_eq_decide.mpr ⟨fun z => by injection z with z; exact z.symm, fun z => by rw [z]⟩
def tWg (o k : Nat) : Bool := Nat.beq o 48 || Nat.beq o 49
def tTL (o k : Nat) : Bool := Nat.beq o 46 || Nat.beq o 47 || Nat.beq o 48 || Nat.beq o 49 || Nat.beq o 50 || (Nat.beq o 44 && (Nat.beq k 6 || Nat.beq k 7 || Nat.beq k 8))
section
variable {G : zG} {n : Nat} {I : zI} {L : zL} {R : zR} {q : zq} {post : zPo} {g : zg}
theorem k_weigh {p : Nat} (hg : kG g I) (hr : sR g p) (hw : sWork g p < 2) (h46 : I 46 p = nI (sWork g p)) (h47 : I 47 p = nI (sLg g p)) (hs : ∀ m, sCan g p m = true → I 46 (sBeh g p m) = nI (sWork g (sBeh g p m)) ∧ (sWork g (sBeh g p m) < 2 → I 48 (sBeh g p m) = nI (sVal g (sBeh g p m)))) (h : post none (zup (zup I 48 p (nI (sVal g p))) 49 p (nI (sBs g p))) L (zR1 q)) : zC G (n + 2) 233 [.ref 44, .int (nI p)] I L (zR1 q) post := by
  have hp19 := sR_lt hg.1 hr
  have hpin := sR_in hg.1 hr
  have hmv := sMov_le g p
  have hcl : (nI p).toNatClampNeg = p := nI_clamp (by omega)
  have jp : I 46 p = nI (sMov g p) := by rw [h46, sWork_mov hw]
  have key : ∀ j m (mx : Option Nat) (best : Nat) (v : Option Value), m + j = 9 → wInv g p m mx best → zQ G 233 (n + 1) post 15 [some (.ref 44), some (.int (nI p)), some (.int (nI (sMov g p))), some (.int (zon mx)), some (.int (nI best)), some (.int (nI m)), v] [] I L (zR1 q) := by
    intro j
    induction j with
    | zero =>
      intro m mx best v hm hi
      rw [show m = 9 by omega] at hi ⊢
      obtain ⟨e1, e2⟩ := wInv_end hg.1 hw hi
      refine b233_15 (pk_le 9 9 (fun _ => b233_83 (And.intro (vp_in_nI hp19 (by decide)) (And.intro (vp_in_nI hp19 (by decide)) ?_))) (fun z => absurd z (by omega)) rfl rfl (by omega) (by omega))
      rw [hcl, e1, e2]
      exact h
    | succ j ih =>
      intro m mx best v hm hi
      obtain ⟨i1, i2, i3⟩ := hi
      have hb5 : best < 512 := by
        rw [i3]
        exact Nat.lt_of_lt_of_le (sFB_lt _ m) (Nat.pow_le_pow_right (n := 2) (j := 9) (by decide) (by omega))
      refine b233_15 (pk_le 9 m (fun z => absurd z (by omega)) (fun _ => And.intro (vp_in_nI hp19 (by decide)) ?_) rfl rfl (by omega) (by omega))
      rw [hcl, h47]
      refine k_holds rfl (by have := sLg_lt g p; omega) rfl (by omega) ?_
      rw [sLg_tb hg.1]
      refine zbo_eq (fun c => b233_77 ?_) (fun c => ?_)
      · have qq := fun v => ih (m + 1) mx best v (by omega) ⟨fun z j hj => by
            by_cases w : j = m
            · rw [w]; exact c
            · exact i1 z j (by omega), fun x hx => by
            obtain ⟨a1, ⟨j, a2, a3, a4⟩, a5⟩ := i2 x hx
            exact ⟨a1, ⟨j, by omega, a3, a4⟩, fun j hj hc => by
              by_cases w : j = m
              · rw [w, c] at hc; cases hc
              · exact a5 j (by omega) hc⟩, by
            rw [sFB, c, i3]
            rfl⟩
        rw [← nI_1] at qq
        exact qq _
      · have hb19 : sBeh g p m < 19683 := (sIn_ok hg.1 (sIn_beh hg.1 hpin c)).1
        obtain ⟨s1, s2⟩ := hs m c
        refine k_next hg hp19 jp c (k_worthTo (v := sVal g (sBeh g p m)) hb19 (sWork_le _ _) hmv s1 (fun z => ⟨s2 z, sVal_le _ _⟩) ?_)
        rw [sWth_WT hg.1 c (sVal g)]
        have hx2 := sWth_le g (sVal g) p m
        generalize hx : sWth g (sVal g) p m = x at hx2
        -- the mask
        have put : ∀ (b0 : Nat), b0 < 2 ^ m → wInv g p (m + 1) (some x) (b0 + 2 ^ m) → zQ G 233 (n + 1) post 62 [some (.ref 44), some (.int (nI p)), some (.int (nI (sMov g p))), some (.int (nI x)), some (.int (nI b0)), some (.int (nI m)), some (.int (nI x))] [] I L (zR1 q) := by
          intro b0 hb0 hinv
          refine b233_62 (And.intro (fun z => absurd rfl z) (fun _ => b233_77 ?_))
          have qq := fun v => ih (m + 1) (some x) (b0 + 2 ^ m) v (by omega) hinv
          have eb : nI b0 ||| ((1 : Int32) <<< (nI m &&& 31)) = nI (b0 + 2 ^ m) := by rw [zshl1 (by omega), zorN, zor9 m (by omega) b0 hb0]
          rw [← nI_1, ← eb] at qq
          exact qq _
        have hbm : best < 2 ^ m := by rw [i3]; exact sFB_lt _ m
        cases mx with
        | none =>
          have b0 : best = 0 := by
            rw [i3]
            exact (sFB_0 _ _).mpr fun r hr => by rw [i1 rfl r hr]; rfl
          refine And.intro (fun z => absurd z (Int32.not_le.mpr (Int32.lt_of_lt_of_le (by decide : (-1 : Int32) < 0) (nI_pos' (by omega))))) (fun _ => ?_)
          refine put 0 (Nat.pow_pos (by decide)) ⟨(fun z => by cases z), fun y hy => ?_, ?_⟩
          · injection hy with hy
            subst hy
            refine ⟨hx2, ⟨m, by omega, c, hx⟩, fun j hj hc => ?_⟩
            by_cases w : j = m
            · rw [w, hx]
              exact Nat.le_refl _
            · rw [i1 rfl j (by omega)] at hc
              cases hc
          · rw [sFB, if_pos (by rw [c, hx, decide_eq_true rfl]; rfl)]
            congr 1
            exact ((sFB_0 _ _).mpr fun r hr => by rw [i1 rfl r hr]; rfl).symm
        | some y =>
          obtain ⟨y2, ⟨j0, yj, yc, yw⟩, yall⟩ := i2 y rfl
          refine pk_le x y (fun z => ?_) (fun z => ?_) rfl rfl (by omega) (by omega)
          · by_cases w : x = y
            · subst w
              have qq := put best hbm ⟨(fun z => by cases z), fun y' hy => ?_, ?_⟩
              · exact qq
              · injection hy with hy
                subst hy
                exact ⟨hx2, ⟨m, by omega, c, hx⟩, fun j hj hc => by
                  by_cases w : j = m
                  · rw [w, hx]
                    exact Nat.le_refl _
                  · exact yall j (by omega) hc⟩
              · rw [sFB, if_pos (by rw [c, hx, decide_eq_true rfl]; rfl), i3]
            · refine b233_62 (pk_ne x y (fun _ => b233_77 ?_) (fun z2 => absurd z2 w) rfl rfl (by omega) (by omega))
              have qq := fun v => ih (m + 1) (some y) best v (by omega) ⟨(fun z => by cases z), fun y' hy => by
                injection hy with hy
                subst hy
                exact ⟨y2, ⟨j0, by omega, yc, yw⟩, fun j hj hc => by
                  by_cases w2 : j = m
                  · rw [w2, hx]
                    exact z
                  · exact yall j (by omega) hc⟩, by
                rw [sFB, if_neg (by
                  rw [c, hx, decide_eq_false (fun z2 => w (by injection z2 with z2; exact z2.symm))]
                  decide), i3]
                rfl⟩
              rw [← nI_1] at qq
              exact qq _
          · refine put 0 (Nat.pow_pos (by decide)) ⟨(fun z => by cases z), fun y' hy => ?_, ?_⟩
            · injection hy with hy
              subst hy
              refine ⟨hx2, ⟨m, by omega, c, hx⟩, fun j hj hc => ?_⟩
              by_cases w : j = m
              · rw [w, hx]
                exact Nat.le_refl _
              · have := yall j (by omega) hc
                omega
            · rw [sFB, if_pos (by rw [c, hx, decide_eq_true rfl]; rfl)]
              congr 1
              refine ((sFB_0 _ _).mpr fun r hr => ?_).symm
              cases cr : sCan g p r with
              | false => rfl
              | true =>
                have := yall r hr cr
                rw [decide_eq_false (fun z2 => by injection z2 with z2; omega)]
                rfl
  refine zin0 rfl rfl rfl (b233_0 (And.intro (vp_in_nI hp19 (by decide)) ?_))
  rw [hcl, jp]
  exact key 9 0 none 0 none (by omega) ⟨fun _ j hj => absurd hj (Nat.not_lt_zero _), (fun x hx => by cases hx), rfl⟩
/-- the positions with places below i are gone out from -/
def fFw (g : zg) (i : Nat) (I : zI) : Prop := fMk g I ∧ I 46 (sFirst g) ≠ -1 ∧ (∀ j, j < i → j < sSz g → I 46 (sOr g j) ≠ -1 → sWork g (sOr g j) < 2 → I 47 (sOr g j) = nI (sLg g (sOr g j)) ∧ ∀ m, sCan g (sOr g j) m = true → I 46 (sBeh g (sOr g j) m) ≠ -1) ∧ (∀ x, x < 19683 → I 47 x ≠ 0 → I 46 x ≠ -1 ∧ sWork g x < 2) ∧ (∀ x, x < 19683 → I 49 x = 0) ∧ I 44 7 = nI (sSz g)
theorem fFw_R (hg : gOk g) (h : fFw g (sSz g) I) {x : Nat} (hx : sR g x) : I 46 x ≠ -1 := by
  obtain ⟨h1, h2, h3, -⟩ := h
  have key : x < 19683 ∧ I 46 x ≠ -1 := by
    refine hx (fun y => y < 19683 ∧ I 46 y ≠ -1) ⟨sR_lt hg (sR_first g), h2⟩ fun p m hp hw hc => ?_
    have hr : sR g p := by
      rcases h1 p hp.1 with z | z
      · exact absurd z hp.2
      · exact z.1
    have hin := sR_in hg hr
    obtain ⟨e1, e2⟩ := sOr_ix (sIn_sz hin)
    have q3 := h3 (sIx g p) e2 e2
    rw [e1] at q3
    exact ⟨(sIn_ok hg (sIn_beh hg hin hc)).1, (q3 hp.2 hw).2 m hc⟩
  exact key.2
theorem k_tlay (hg : kG g I) (hl : I 44 8 = 0 ∨ (I 44 8 = 1 ∧ kTb g I)) (h : ∀ I' : zI, kTb g I' → I' 44 8 = 1 → (I 44 8 = 1 → I' = I) → zFr tTL I I' → post none I' L (zR1 q)) : zC G (n + 4) 225 [.ref 44] I L (zR1 q) post := by
  have hsz := sSz_le hg.1
  have hfst := sR_lt hg.1 (sR_first g)
  have t45 : ∀ {J : zI}, zFr tTL I J → kG g J := fun hf => kG_of hg (zFr_row hf fun _ => rfl)
  -- the way back
  have back : ∀ i (J : zI) (x3 : Option Value), i ≤ sSz g → (∀ p, p < 19683 → (sR g p ∧ J 46 p = nI (sWork g p)) ∨ (¬ sR g p ∧ J 46 p = -1)) → (∀ p, p < 19683 → sR g p → sWork g p < 2 → J 47 p = nI (sLg g p)) → (∀ p, p < 19683 → ¬ (sR g p ∧ sWork g p < 2) → J 47 p = 0 ∧ J 49 p = 0) → (∀ j, i ≤ j → j < sSz g → sR g (sOr g j) → sWork g (sOr g j) < 2 → J 48 (sOr g j) = nI (sVal g (sOr g j)) ∧ J 49 (sOr g j) = nI (sBs g (sOr g j))) → J 44 7 = nI (sSz g) → J 44 8 = 1 → (I 44 8 = 0) → zFr tTL I J → zQ G 225 (n + 3) post 141 [some (.ref 44), some (.int (nI (sFirst g))), some (.int (nI i - 1)), x3] [] J L (zR1 q) := by
    intro i
    induction i with
    | zero =>
      intro J x3 _ a1 a2 a3 a4 a5 a6 a7 a8
      refine b225_141 (And.intro (fun _ => b225_170 ?_) (fun z => absurd (by decide) z))
      refine h J ⟨a1, fun p hp hr hw => ?_, a3, a5⟩ a6 (fun z => by rw [a7] at z; exact absurd z (by decide)) a8
      obtain ⟨e1, e2⟩ := sOr_ix (sIn_sz (sR_in hg.1 hr))
      have q4 := a4 (sIx g p) (Nat.zero_le _) e2
      rw [e1] at q4
      exact ⟨a2 p hp hr hw, q4 hr hw⟩
    | succ i ih =>
      intro J x3 hi a1 a2 a3 a4 a5 a6 a7 a8
      have hgJ := t45 a8
      obtain ⟨o1, o2⟩ := sIx_or (g := g) (i := i) (by omega)
      have hp19 : sOr g i < 19683 := by omega
      have em : nI (i + 1) - 1 = nI i := nI_pred i
      have ed : nI i + (-1) = nI i - 1 := (Int32.sub_eq_add_neg _ _).symm
      refine b225_141 ?_
      rw [em]
      refine And.intro (fun z => absurd z (nI_pos (by omega))) (fun _ => k_inOrder hgJ a5 (by omega) ?_)
      generalize hp : sOr g i = p at o1 o2 hp19
      have nxt : ∀ (J' : zI), (∀ x, x ≠ p → J' 48 x = J 48 x ∧ J' 49 x = J 49 x) → (∀ o, o ≠ 48 → o ≠ 49 → J' o = J o) → (sR g p → sWork g p < 2 → J' 48 p = nI (sVal g p) ∧ J' 49 p = nI (sBs g p)) → (¬ (sR g p ∧ sWork g p < 2) → J' 49 p = J 49 p) → zFr tTL I J' → zQ G 225 (n + 3) post 164 [some (.ref 44), some (.int (nI (sFirst g))), some (.int (nI i)), some (.int (nI p))] [] J' L (zR1 q) := by
        intro J' c1 c2 c3 c4 c5
        refine b225_164 ?_
        have qq := ih J' (some (.int (nI p))) (by omega) (fun p hp => by rw [c2 46 (by decide) (by decide)]; exact a1 p hp) (fun p hp => by rw [c2 47 (by decide) (by decide)]; exact a2 p hp) (fun x hx hn => ⟨by rw [c2 47 (by decide) (by decide)]; exact (a3 x hx hn).1, by
          by_cases w : x = p
          · subst w
            rw [c4 hn]
            exact (a3 x hx hn).2
          · rw [(c1 x w).2]
            exact (a3 x hx hn).2⟩) (fun j hj hj2 hr hw => by
          by_cases w : sOr g j = p
          · rw [w] at hr hw ⊢
            exact c3 hr hw
          · rw [(c1 _ w).1, (c1 _ w).2]
            refine a4 j ?_ hj2 hr hw
            by_cases w2 : j = i
            · subst w2
              exact absurd hp w
            · omega) (by rw [c2 44 (by decide) (by decide)]; exact a5) (by rw [c2 44 (by decide) (by decide)]; exact a6) a7 c5
        rw [← ed] at qq
        exact qq
      refine k_goesOn (fun p' hp' e hst => And.intro (fun z => absurd z (by decide)) (fun _ => ?_)) (fun hst => And.intro (fun _ => ?_) (fun z => absurd rfl z))
      · have epp : p = p' := nI_inj (by omega) (by omega) e
        subst epp
        have hrw : sR g p ∧ sWork g p < 2 ∧ J 46 p = nI (sWork g p) := by
          rcases a1 p hp19 with ⟨r1, r2⟩ | ⟨r1, r2⟩
          · refine ⟨r1, ?_, r2⟩
            rw [r2] at hst
            have := sWork_le g p
            rcases hst with z | z
            · have := (nI_eq (b := 0) (by omega) (by omega)).mp z
              omega
            · have := (nI_eq (b := 1) (by omega) (by omega)).mp z
              omega
          · rw [r2] at hst
            rcases hst with z | z <;> exact absurd z (by decide)
        obtain ⟨hr, hw, h46⟩ := hrw
        refine k_weigh hgJ hr hw h46 (a2 p hp19 hr hw) (fun m hc => ?_) ?_
        · have hqr := sR_step hr hw hc
          have hq19 := sR_lt hg.1 hqr
          refine ⟨?_, fun hw2 => ?_⟩
          · rcases a1 _ hq19 with z | z
            · exact z.2
            · exact absurd hqr z.1
          · have hin := sR_in hg.1 hqr
            obtain ⟨f1, f2⟩ := sOr_ix (sIn_sz hin)
            have hlt := sIx_beh hg.1 (sR_in hg.1 hr) hc
            have q4 := a4 (sIx g (sBeh g p m)) (by omega) f2
            rw [f1] at q4
            exact (q4 hqr hw2).1
        · refine nxt _ (fun x hx => ⟨?_, ?_⟩) (fun o h1 h2 => ?_) (fun _ _ => ⟨?_, zup_self⟩) (fun z => absurd ⟨hr, hw⟩ z) (zFr_up (zFr_up a8 rfl) rfl)
          · rw [zup_ne (by decide), zup_k hx]
          · rw [zup_k hx, zup_ne (by decide)]
          · rw [zup_ne h2, zup_ne h1]
          · rw [zup_ne (by decide), zup_self]
      · refine nxt J (fun x hx => ⟨rfl, rfl⟩) (fun o _ _ => rfl) (fun hr hw => ?_) (fun _ => rfl) a8
        exfalso
        obtain ⟨n0, n1⟩ := hst p hp19 rfl
        rcases a1 p hp19 with ⟨r1, r2⟩ | ⟨r1, r2⟩
        · rw [r2] at n0 n1
          rcases (show sWork g p = 0 ∨ sWork g p = 1 by omega) with z | z
          · rw [z] at n0
            exact n0 rfl
          · rw [z] at n1
            exact n1 rfl
        · exact r1 hr
  -- the way out
  have out : ∀ j i (J : zI) (x3 : Option Value), i + j = sSz g → fFw g i J → (g 0 = 0 → kLn g J) → J 44 8 = 1 → I 44 8 = 0 → zFr tTL I J → zQ G 225 (n + 3) post 101 [some (.ref 44), some (.int (nI (sFirst g))), some (.int (nI i)), x3] [] J L (zR1 q) := by
    intro j
    induction j with
    | zero =>
      intro i J x3 hi a1 hln a6 a7 a8
      rw [show i = sSz g by omega] at a1 ⊢
      have hR := fun {x} hx => fFw_R hg.1 a1 (x := x) hx
      obtain ⟨b1, b2, b3, b4, b5, b6⟩ := a1
      refine b225_101 ?_
      show (J 44 7 ≤ nI (sSz g) → _) ∧ (¬ J 44 7 ≤ nI (sSz g) → _)
      rw [b6]
      refine pk_le (sSz g) (sSz g) (fun _ => b225_134 ?_) (fun z => absurd z (by omega)) rfl rfl (by omega) (by omega)
      show zP _ _ _ _ _ _ _ (zsl1 _ _ (.int (J 44 7 - 1))) _ _ _ _ _
      rw [b6]
      refine back (sSz g) J x3 (Nat.le_refl _) (fun p hp => ?_) (fun p hp hr hw => ?_) (fun p hp hn => ⟨?_, b5 p hp⟩) (fun j hj hj2 => absurd hj (by omega)) b6 a6 a7 a8
      · rcases b1 p hp with z | z
        · exact .inr ⟨fun w => hR w z, z⟩
        · exact .inl z
      · obtain ⟨e1, e2⟩ := sOr_ix (sIn_sz (sR_in hg.1 hr))
        have q3 := b3 (sIx g p) e2 e2
        rw [e1] at q3
        exact (q3 (hR hr) hw).1
      · by_cases z : J 47 p = 0
        · exact z
        · obtain ⟨z1, z2⟩ := b4 p hp z
          rcases b1 p hp with w | w
          · exact absurd w z1
          · exact absurd ⟨w.1, z2⟩ hn
    | succ j ih =>
      intro i J x3 hi a1 hln a6 a7 a8
      obtain ⟨b1, b2, b3, b4, b5, b6⟩ := a1
      have hgJ := t45 a8
      obtain ⟨o1, o2⟩ := sIx_or (g := g) (i := i) (by omega)
      have hp19 : sOr g i < 19683 := by omega
      refine b225_101 ?_
      show (J 44 7 ≤ nI i → _) ∧ (¬ J 44 7 ≤ nI i → _)
      rw [b6]
      refine pk_le (sSz g) i (fun z => absurd z (by omega)) (fun _ => k_inOrder hgJ b6 (by omega) ?_) rfl rfl (by omega) (by omega)
      refine k_goesOn (fun p' hp' e hst => And.intro (fun z => absurd z (by decide)) (fun _ => ?_)) (fun hst => And.intro (fun _ => b225_128 ?_) (fun z => absurd rfl z))
      · have epp : sOr g i = p' := nI_inj (by omega) (by omega) e
        subst epp
        have hrw : sR g (sOr g i) ∧ sWork g (sOr g i) < 2 ∧ J 46 (sOr g i) = nI (sWork g (sOr g i)) := by
          rcases b1 _ hp19 with z | ⟨r1, r2⟩
          · rw [z] at hst
            rcases hst with w | w <;> exact absurd w (by decide)
          · refine ⟨r1, ?_, r2⟩
            rw [r2] at hst
            have := sWork_le g (sOr g i)
            rcases hst with z | z
            · have := (nI_eq (b := 0) (by omega) (by omega)).mp z
              omega
            · have := (nI_eq (b := 1) (by omega) (by omega)).mp z
              omega
        obtain ⟨hr, hw, h46⟩ := hrw
        have hin := sR_in hg.1 hr
        have mk : J 46 (sOr g i) ≠ -1 := by rw [h46]; exact nI_neq1 (by omega)
        refine k_reachFrom hgJ hln hr hw h46 b1 (fun J' c1 c2 c3 c4 c5 c6 => b225_128 ?_)
        have fJ : zFr tTL I J' := zFr_tr a8 (fun o k z => c6 o k (by
          unfold tTL at z
          simp only [Bool.or_eq_false_iff] at z
          unfold tTR
          rw [z.1.1.1.1.1, z.1.1.1.1.2]
          rfl))
        have c5' : ∀ x, x < sSz g → sIx g x ≤ i → J' 46 x = J 46 x := fun x hx hix => c5 x fun m hm hxe => by
          have := sIx_beh hg.1 hin hm
          rw [← hxe] at this
          omega
        have qq := ih (i + 1) J' (some (.int (nI (sOr g i)))) (by omega) ⟨c2, by rw [c3 _ b2]; exact b2, fun j hj hj2 hmk hw' => ?_, fun x hx hne => ?_, fun x hx => by rw [c6 49 x rfl]; exact b5 x hx, by rw [c6 44 7 rfl]; exact b6⟩ (fun c => kLn_of (hln c) (c6 44 6 rfl) (zFr_row c6 fun _ => rfl)) (by rw [c6 44 8 rfl]; exact a6) a7 fJ
        · rw [← nI_1] at qq
          exact qq
        · obtain ⟨p1, p2⟩ := sIx_or (g := g) (i := j) hj2
          rw [c1]
          by_cases w : sOr g j = sOr g i
          · rw [if_pos w, w]
            exact ⟨rfl, fun m hm => c4 m hm⟩
          · rw [if_neg w]
            have hji : j < i := by
              by_cases w2 : j = i
              · rw [w2] at w
                exact absurd rfl w
              · omega
            rw [c5' _ p2 (by omega)] at hmk
            obtain ⟨q1, q2⟩ := b3 j hji hj2 hmk hw'
            refine ⟨q1, fun m hm => ?_⟩
            rw [c3 _ (q2 m hm)]
            exact q2 m hm
        · rw [c1] at hne
          by_cases w : x = sOr g i
          · rw [w, c3 _ mk]
            exact ⟨mk, hw⟩
          · rw [if_neg w] at hne
            obtain ⟨q1, q2⟩ := b4 x hx hne
            exact ⟨by rw [c3 _ q1]; exact q1, q2⟩
      · have qq := ih (i + 1) J (some (.int (nI (sOr g i)))) (by omega) ⟨b1, b2, fun j hj hj2 hmk hw' => ?_, b4, b5, b6⟩ hln a6 a7 a8
        · rw [← nI_1] at qq
          exact qq
        · by_cases w2 : j = i
          · exfalso
            subst w2
            obtain ⟨n0, n1⟩ := hst _ hp19 rfl
            rcases b1 _ hp19 with z | ⟨-, r2⟩
            · exact hmk z
            · rw [r2] at n0 n1
              rcases (show sWork g (sOr g j) = 0 ∨ sWork g (sOr g j) = 1 by omega) with z | z
              · rw [z] at n0
                exact n0 rfl
              · rw [z] at n1
                exact n1 rfl
          · exact b3 j (by omega) hj2 hmk hw'
  refine zin0 rfl rfl rfl (b225_0 ?_)
  rcases hl with c | ⟨c, hT⟩
  · refine And.intro (fun _ => b225_8 ?_) (fun z => absurd c z)
    refine And.intro ⟨rfl, rfl⟩ ?_
    have hg1 : kG g (zup I 44 8 1) := kG_of hg (zup_ne (by decide))
    -- the size told, the arrays cleared
    have tail : ∀ v : Int32, v = nI (sSz g) → zQ G 225 (n + 3) post 46 [some (.ref 44), none, none, none] [.int v, .ref 44] (zup I 44 8 1) L (zR1 q) := by
      intro v hv
      subst hv
      refine b225_46 (k_fill (m := 19683) rfl rfl (by decide) (fun J1 f1 g1 => k_fill (m := 19683) rfl rfl (by decide) (fun J2 f2 g2 => k_fill (m := 19683) rfl rfl (by decide) (fun J3 f3 g3 => ?_))))
      have e3 : ∀ o, o ≠ 46 → o ≠ 47 → o ≠ 49 → J3 o = zup (zup I 44 8 1) 44 7 (nI (sSz g)) o := fun o h1 h2 h3 => by rw [g3 o h3, g2 o h2, g1 o h1]
      have fr3 : zFr tTL I J3 := fun o k z => by
        have n46 : o ≠ 46 := fun w => by subst w; cases z
        have n47 : o ≠ 47 := fun w => by subst w; cases z
        have n49 : o ≠ 49 := fun w => by subst w; cases z
        rw [e3 o n46 n47 n49]
        exact (zFr_up (zFr_up (zFr_0 tTL I) rfl) rfl) o k z
      have hg3 := t45 fr3
      refine k_drawLines (n := n + 1) hg3 (fun J4 ln4 fr4 => ?_)
      have fr4' : zFr tTL I J4 := zFr_tr fr3 (fun o k z => fr4 o k (by
        unfold tTL at z
        simp only [Bool.or_eq_false_iff, Bool.and_eq_false_iff] at z
        unfold tDL
        rw [z.1.2]
        rcases z.2 with w | w
        · rw [w]; rfl
        · rw [w.1.1, Bool.and_false]; rfl))
      have hg4 := t45 fr4'
      refine k_start hg4 ?_
      have em1 : (if (19682 : Int32) < nI (sFirst g) then (19682 : Int32) else nI (sFirst g)) = nI (sFirst g) := by
        split
        · rename_i z
          have z2 := (nI_ltI (a := 19682) (by omega) (by omega)).mp z
          rw [show sFirst g = 19682 by omega]
          rfl
        · rfl
      have em2 : (if (0 : Int32) < (if (19682 : Int32) < nI (sFirst g) then (19682 : Int32) else nI (sFirst g)) then (if (19682 : Int32) < nI (sFirst g) then (19682 : Int32) else nI (sFirst g)) else 0) = nI (sFirst g) := by
        rw [em1]
        split
        · rfl
        · rename_i z
          have z2 : ¬ 0 < sFirst g := fun w => z ((nI_ltI (a := 0) (by omega) (by omega)).mpr w)
          rw [show sFirst g = 0 by omega]
          rfl
      have go : ∀ v : Int32, v = nI (sFirst g) → vp_in v 19683 ∧ zQ G 225 (n + 3) post 101 [some (.ref 44), some (.int v), some (.int (nI 0)), none] [] (zup J4 46 v.toNatClampNeg 0) L (zR1 q) := by
        intro v hv
        subst hv
        refine ⟨vp_in_nI hfst (by decide), ?_⟩
        rw [nI_clamp (by omega)]
        have j46 : ∀ x, x < 19683 → J4 46 x = -1 := fun x hx => by rw [fr4 46 x rfl, g3 46 (by decide), g2 46 (by decide)]; exact f1 x hx
        have j47 : ∀ x, x < 19683 → J4 47 x = 0 := fun x hx => by rw [fr4 47 x rfl, g3 47 (by decide)]; exact f2 x hx
        have j49 : ∀ x, x < 19683 → J4 49 x = 0 := fun x hx => by rw [fr4 49 x rfl]; exact f3 x hx
        refine out (sSz g) 0 _ none (by omega) ⟨fun x hx => ?_, ?_, fun j hj => absurd hj (Nat.not_lt_zero _), fun x hx hne => ?_, fun x hx => ?_, ?_⟩ (fun cb => kLn_of (ln4 cb) (by rw [zup_ne (by decide)]) (zup_ne (by decide))) ?_ c (zFr_up fr4' rfl)
        · by_cases w : x = sFirst g
          · subst w
            rw [zup_self]
            exact .inr ⟨sR_first g, by rw [sWork_first hg.1]; rfl⟩
          · rw [zup_k w]
            exact .inl (j46 x hx)
        · rw [zup_self]
          decide
        · rw [zup_ne (by decide)] at hne
          exact absurd (j47 x hx) hne
        · rw [zup_ne (by decide)]
          exact j49 x hx
        · rw [zup_ne (by decide), fr4 44 7 rfl, e3 44 (by decide) (by decide) (by decide), zup_self]
        · rw [zup_ne (by decide), fr4 44 8 rfl, e3 44 (by decide) (by decide) (by decide), zup_k (by decide), zup_self]
      exact go _ em2
    refine khp hg1 (fun cb => b225_38 ?_) (fun ch => ?_)
    · have hpl := sPl_pos hg.1
      refine k_boardPlaces hg1 cb (And.intro (vp_in_nI (show sPl g < 10 by omega) (by decide)) (tail _ ?_))
      rw [nI_clamp (by omega), zpow0 _ (by omega)]
      unfold sSz
      rw [if_neg (by omega)]
    · refine tail _ ?_
      show (2 : Int32) * zup I 44 8 1 45 3 + 2 = _
      rw [zup_ne (by decide), hg.2.1, if_pos ch, show (2 : Int32) = nI 2 from rfl, pk_mul, nI_add]
      unfold sSz
      rw [if_pos ch]
  · exact And.intro (fun z => by rw [c] at z; exact absurd z (by decide)) (fun _ => h I hT c (fun _ => rfl) (zFr_0 _ _))
end
