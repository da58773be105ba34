-- ===== the class: going through all ways =====
def pGo (o _k : Nat) : Prop := o = 65 ∨ o = 66 ∨ o = 67 ∨ (79 ≤ o ∧ o ≤ 83) ∨ (86 ≤ o ∧ o ≤ 88)
def lGo (L L' : zL) : Prop := ∀ o k, o ≠ 79 → L' o k = L o k
theorem mAc_of {a : zwa} {L L' : zL} (h : mAc a L) (hl : ∀ k, 18 ≤ k → L' 79 k = L 79 k) : mAc a L' := by
  unfold mAc
  rw [hl 18 (by decide), hl 19 (by decide), hl 20 (by decide), hl 21 (by decide), hl 22 (by decide)]
  exact h
theorem lPk_go {L L' : zL} (h : lPk L L') : lGo L L' := fun o k z => h o k (fun w => z w.1)
theorem lGo_tr {L L' L'' : zL} (h : lGo L L') (h2 : lGo L' L'') : lGo L L'' := fun o k z => (h2 o k z).trans (h o k z)
theorem pMt_go {o k : Nat} (h : pMt 79 80 81 82 83 65 66 67 o k) : pGo o k := by
  unfold pGo
  rcases h with (z | z | z | z | z | z | z | z | z | z) | z | z <;> omega
theorem tCh_go {o k : Nat} (h : tCh 65 66 67 o k = true) : pGo o k := by
  have := tCh_p h
  unfold pGo
  omega
section
variable {G : zG} {n : Nat} {I : zI} {L : zL} {q : zq} {post : zPo} {g : zg} {F : zfo} {fr : Nat → Nat} {fA FO FA FB FC FD RO RA RT : Nat} {rl : zrl} {ru : Option Nat} {rv : Value} {c : sC}
theorem kGw_go {I' : zI} (hO : kFb FO FA FB FC FD) (h : kGw g 79 80 81 82 83 84 65 66 67 FO FA FB FC FD RO RA RT F rl ru rv I) (hf : pFr pGo I I') : kGw g 79 80 81 82 83 84 65 66 67 FO FA FB FC FD RO RA RT F rl ru rv I' := by
  have ho : ∀ o, (o ≤ 61 ∨ 107 ≤ o ∨ o = 84) → I' o = I o := fun o z => funext fun k => hf o k (fun w => by unfold pGo at w; omega)
  obtain ⟨h1, h2, h3, h4⟩ := h
  have fhi := kFb_hi hO
  refine ⟨?_, kLay_of h2 (fun o _ z => ho o (.inl z)), fun k hk => by rw [ho 84 (.inr (.inr rfl))]; exact h3 k hk, ?_⟩
  · unfold kFo
    rw [ho FO (.inr (.inl (by omega))), ho FA (.inr (.inl (by omega))), ho FB (.inr (.inl (by omega))), ho FC (.inr (.inl (by omega))), ho FD (.inr (.inl (by omega)))]
    exact h1
  · cases ru with
    | none => exact h4
    | some r =>
      obtain ⟨a1, a2, a3, a4⟩ := h4
      have hh := kRo_hi a2
      exact ⟨a1, a2, kRu_of a3 (ho _ (.inr (.inl (by omega)))) (ho _ (.inr (.inl (by omega)))) (ho _ (.inr (.inl (by omega)))), a4⟩
set_option maxHeartbeats 1000000 in
theorem k_goThrough {gs : Nat} (hO : kFb FO FA FB FC FD) (hok : foOk F) (hw : kGw g 79 80 81 82 83 84 65 66 67 FO FA FB FC FD RO RA RT F rl ru rv I) (hfA : kAr fA 21 ∧ (fA = 69 ∨ fA = 78)) (hfr : kFr fr fA I) (hc : kC g c 62 63 64 I) (hc2 : kC g c 65 66 67 I) (hin : cIn g c) (hgs : gs ≤ 3) (h : (sWw g fr rl ru F c gs).length ≤ 3000 → ∀ (I' : zI) (L' : zL), mAc (sWa (sWw g fr rl ru F c gs)) L' → kC g c 65 66 67 I' → pFr pGo I I' → lGo L L' → post (some (.int 1)) I' L' (zR1 q)) (h3 : 3000 < (sWw g fr rl ru F c gs).length → ∀ (I' : zI) (L' : zL), kC g c 65 66 67 I' → pFr pGo I I' → lGo L L' → post (some (.int 0)) I' L' (zR1 q)) : zC G (n + 6) 248 [.ref 79, .ref 62, .ref 65, .ref FO, rv, .ref fA, .int (nI gs)] I L (zR1 q) post := by
  have hg := hw.2.1.1.1
  have hdf := sDep_first g hg
  have hX : kXo 79 80 81 82 83 84 65 66 67 := .inr (.inr ⟨rfl, rfl, rfl, rfl, rfl, rfl, rfl, rfl, rfl⟩)
  have hrv : rv = .null ∨ ∃ o, rv = .ref o := by
    have := hw.2.2.2
    cases ru with
    | none => exact .inl this
    | some r => exact .inr ⟨RO, this.1⟩
  obtain ⟨t, ok1, ok2⟩ := yAll (fr := fr) (rl := rl) (ru := ru) hg hok 100 gs (sFirst g) c [] 1000000000 (by unfold yFu; split <;> omega) (sR_first g) hin (fun d hx => by cases hx) (Nat.le_refl _)
  have bo : yBo g gs (sFirst g) ≤ 120 := by unfold yBo; split <;> omega
  obtain ⟨V0, r0, step⟩ := ok1
  have r0 : t.2.1 [] = sWw g fr rl ru F c gs := r0
  generalize hW : sWw g fr rl ru F c gs = W at *
  have way : ∀ π, t.2.2 π → wGs pfW g fr rl ru F gs (c, (π, [], [], 1000000000)) = ((t.1 π).1.1, (π, (t.1 π).2.1, (t.1 π).2.2, (t.1 π).1.2)) ∧ wGv vW pfW g fr rl ru F gs (c, (π, [], [], 1000000000)) ∧ (t.1 π).2.1.length ≤ 120 := by
    intro π hπ
    obtain ⟨a1, a2, a3⟩ := ok2 π hπ π [] [] rfl rfl (by show 0 + _ ≤ 128; omega)
    have a1 : wRun pfW g fr rl ru F 100 gs (sFirst g) (c, (π, [], [], 1000000000)) [] = ((t.1 π).1.1, (π, (t.1 π).2.1, (t.1 π).2.2, (t.1 π).1.2)) := a1
    have a2 : wVd vW pfW g fr rl ru F 100 gs (sFirst g) (c, (π, [], [], 1000000000)) [] := a2
    cases gs with
    | zero =>
      rw [wRun_0] at a1
      exact ⟨a1, trivial, by omega⟩
    | succ k =>
      obtain ⟨b1, b2, b3⟩ := wRun_gs (fr := fr) (rl := rl) (ru := ru) hg pfW_ok hok 100 21 k (sFirst g) (c, (π, [], [], 1000000000)) [] [] (by omega) (by omega) (pInv_0 hg hin) a2
      exact ⟨b2.symm.trans a1, ⟨b1, b3⟩, by omega⟩
  have stat : ∀ J : zI, pFr pGo I J → kGw g 79 80 81 82 83 84 65 66 67 FO FA FB FC FD RO RA RT F rl ru rv J ∧ kFr fr fA J ∧ kC g c 62 63 64 J := fun J jf => by
    have ro : ∀ o, (o = 62 ∨ o = 63 ∨ o = 64 ∨ o = 69 ∨ o = 78) → J o = I o := fun o z => funext fun k => jf o k (fun w => by unfold pGo at w; omega)
    refine ⟨kGw_go hO hw jf, fun s hs => ?_, kC_of hc (ro 63 (by omega)) (ro 64 (by omega)) (fun k _ => by rw [ro 62 (by omega)])⟩
    rw [ro fA (by have := hfA.2; omega)]
    exact hfr s hs
  have key : ∀ (j i : Nat) (π : List Nat) (pre : List (Nat × Nat)) (J : zI) (L1 : zL) (v8 : Option Value), i + j = 3000 → t.2.2 π → W = pre ++ t.2.1 π → pre.length = i → mAc (pre.foldl wAcc (0, 0, 0, 0, 0)) L1 → kC g c 65 66 67 J → J 79 14 = nI π.length → π.length ≤ 128 → (∀ j k, π[j]? = some k → J 86 j = nI k) → pFr pGo I J → lGo L L1 → zQ G 248 (n + 5) post 35 [some (.ref 79), some (.ref 62), some (.ref 65), some (.ref FO), some rv, some (.ref fA), some (.int (nI gs)), some (.int (nI i)), v8] [] J L1 (zR1 q) := by
    intro j
    induction j with
    | zero =>
      intro i π pre J L1 v8 hi hπ hWp hp ha jc j14 hπl j86 jf jl
      obtain ⟨s1, -, -⟩ := step π hπ
      have hlen : 3000 < W.length := by
        rw [hWp, List.length_append, s1, List.length_cons]
        omega
      have hh := h3 hlen J L1 jc jf jl
      exact b248_35 (pk_le 3000 i (fun _ => b248_120 (And.intro rfl hh)) (fun z => absurd z (by omega)) rfl rfl (by omega) (by omega))
    | succ j ih =>
      intro i π pre J L1 v8 hi hπ hWp hp ha jc j14 hπl j86 jf jl
      obtain ⟨s1, s2, s3⟩ := step π hπ
      obtain ⟨y1, y2, y3⟩ := way π hπ
      -- behind the games of a way
      have at91 : ∀ (s : sC × zyw) (bs : List Nat) (J2 : zI) (L3 : zL) (v8 : Option Value), s = ((t.1 π).1.1, (π, (t.1 π).2.1, (t.1 π).2.2, (t.1 π).1.2)) → kC g s.1 65 66 67 J2 → tWp s.2 J2 L3 → cIn g s.1 → kTo g bs J2 → cDf bs c s.1 → mAc (pre.foldl wAcc (0, 0, 0, 0, 0)) L3 → pFr pGo I J2 → lGo L L3 → zQ G 248 (n + 5) post 91 [some (.ref 79), some (.ref 62), some (.ref 65), some (.ref FO), some rv, some (.ref fA), some (.int (nI gs)), some (.int (nI i)), v8] [] J2 L3 (zR1 q) := by
        intro s bs J2 L3 v8 es c2 t2 i2 to df ac f2 l2
        subst es
        obtain ⟨-, -, cJ⟩ := stat J2 f2
        have fin : ∀ (J3 : zI) (L4 : zL), mAc ((pre ++ [yLf (t.1 π)]).foldl wAcc (0, 0, 0, 0, 0)) L4 → kC g c 65 66 67 J3 → tWp (π, (t.1 π).2.1, (t.1 π).2.2, (t.1 π).1.2) J3 L4 → pFr pGo I J3 → lGo L L4 → ∀ post' : zPo, (post (some (.int 1)) J3 L4 (zR1 q) → post' (some (.int 0)) J3 L4 (zR1 q)) → (∀ J5 : zI, zQ G 248 (n + 5) post 114 [some (.ref 79), some (.ref 62), some (.ref 65), some (.ref FO), some rv, some (.ref fA), some (.int (nI gs)), some (.int (nI i)), v8] [] J5 L4 (zR1 q) → post' (some (.int 1)) J5 L4 (zR1 q)) → zC G (n + 5) 252 [.ref 79] J3 L4 (zR1 q) post' := by
          intro J3 L4 ac4 c3 t3 f3 l3 post' hp0 hp1
          refine k_turnOn (n := n + 4) t3 s2 (by show (t.1 π).2.1.length ≤ 128; omega) (fun e => hp0 ?_) (fun π' e J5 e14 e86 f5 => hp1 J5 ?_)
          · have e : yTurn (t.1 π).2.1 (t.1 π).2.2 = none := e
            have eA : yAft t (t.1 π) = [] := by unfold yAft; rw [e]
            rw [eA] at s1
            rw [s1] at hWp
            refine h (by rw [hWp, snoc_len]; omega) J3 L4 ?_ c3 f3 l3
            rw [hWp]
            exact ac4
          · have e : yTurn (t.1 π).2.1 (t.1 π).2.2 = some π' := e
            have eA : yAft t (t.1 π) = t.2.1 π' := by unfold yAft; rw [e]
            rw [eA] at s1
            rw [s1] at hWp
            obtain ⟨v1, v2⟩ := s3 π' e
            have ro : ∀ o, o ≠ 86 → o ≠ 79 → J5 o = J3 o := fun o z1 z2 => funext fun k => f5 o k (fun w => w.elim z1 (fun w => z2 w.1))
            have qq := ih (i + 1) π' (pre ++ [yLf (t.1 π)]) J5 L4 v8 (by omega) v1 (by rw [hWp, List.append_assoc]; rfl) (by rw [snoc_len, hp]) ac4 (kC_of c3 (ro 66 (by decide) (by decide)) (ro 67 (by decide) (by decide)) (fun k _ => by rw [ro 65 (by decide) (by decide)])) e14 (by omega) e86 (pFr_tr f3 (pFr_le f5 fun o k z => by unfold pGo; omega)) l3
            rw [← nI_1] at qq
            rcases hrv with rfl | ⟨o, rfl⟩ <;> exact b248_114 qq
        have hB : 10000 - (t.1 π).1.1.2.2.1 - (t.1 π).1.1.2.2.2.1 ≤ 10000 := by omega
        have back : ∀ (J3 : zI) (L4 : zL), mAc (wAcc (pre.foldl wAcc (0, 0, 0, 0, 0)) ((t.1 π).1.2, 10000 - (t.1 π).1.1.2.2.1 - (t.1 π).1.1.2.2.2.1)) L4 → (∀ o k, ¬ (o = 79 ∧ 18 ≤ k ∧ k ≤ 22) → L4 o k = L3 o k) → kC g c 65 66 67 J3 → zFr (tCh 65 66 67) J2 J3 → ∀ post' : zPo, (post (some (.int 1)) J3 L4 (zR1 q) → post' (some (.int 0)) J3 L4 (zR1 q)) → (∀ J5 : zI, zQ G 248 (n + 5) post 114 [some (.ref 79), some (.ref 62), some (.ref 65), some (.ref FO), some rv, some (.ref fA), some (.int (nI gs)), some (.int (nI i)), v8] [] J5 L4 (zR1 q) → post' (some (.int 1)) J5 L4 (zR1 q)) → zC G (n + 5) 252 [.ref 79] J3 L4 (zR1 q) post' := by
          intro J3 L4 ac4 l4 c3 f3
          have ro : ∀ o, o ≠ 66 → o ≠ 67 → o ≠ 65 → J3 o = J2 o := fun o z1 z2 z3 => ch_row f3 z1 z2 z3
          exact fin J3 L4 (by rw [List.foldl_append]; exact ac4) c3 (tWp_st _ _ _ _ _ t2 (by rw [ro 79 (by decide) (by decide) (by decide)]) (by rw [ro 79 (by decide) (by decide) (by decide)]) (ro 86 (by decide) (by decide) (by decide)) (ro 87 (by decide) (by decide) (by decide)) (l4 79 15 (by omega))) (pFr_tr f2 (pFr_z f3 fun o k z => tCh_go z)) (lGo_tr l2 (fun o k z => l4 o k (fun w => z w.1)))
        rcases hrv with rfl | ⟨o, rfl⟩ <;> exact b248_91 (k_inBoxes (n := n + 4) (.inr (.inl ⟨rfl, rfl, rfl⟩)) i2.1 c2 (k_addUp (n := n + 4) (ch := (t.1 π).1.2) ac hB t2.2.2.2.2.2.2 (fun L4 ac4 l4 => k_takeBack (n := n + 2) hg to cJ c2 df (fun J3 c3 f3 => back J3 L4 ac4 l4 c3 f3 _ (fun hh => And.intro (fun z => absurd rfl z) (fun _ => And.intro rfl hh)) (fun J5 hh => And.intro (fun _ => hh) (fun z => absurd z (by decide))))))) 
      -- the games of a way
      have at63 : ∀ (m jj : Nat) (s : sC × zyw) (bs : List Nat) (J2 : zI) (L3 : zL), jj + m = gs → wGs pfW g fr rl ru F m s = ((t.1 π).1.1, (π, (t.1 π).2.1, (t.1 π).2.2, (t.1 π).1.2)) → wGv vW pfW g fr rl ru F m s → kC g s.1 65 66 67 J2 → tWp s.2 J2 L3 → cIn g s.1 → kTo g bs J2 → cDf bs c s.1 → bs.length ≤ 21 * jj → mAc (pre.foldl wAcc (0, 0, 0, 0, 0)) L3 → pFr pGo I J2 → lGo L L3 → zQ G 248 (n + 5) post 63 [some (.ref 79), some (.ref 62), some (.ref 65), some (.ref FO), some rv, some (.ref fA), some (.int (nI gs)), some (.int (nI i)), some (.int (nI jj))] [] J2 L3 (zR1 q) := by
        intro m
        induction m with
        | zero =>
          intro jj s bs J2 L3 hj es ev c2 t2 i2 to df bl ac f2 l2
          have ee : jj = gs := by omega
          exact b248_63 (pk_le gs jj (fun _ => at91 s bs J2 L3 _ es c2 t2 i2 to df ac f2 l2) (fun z => absurd z (by omega)) rfl rfl (by omega) (by omega))
        | succ m ihm =>
          intro jj s bs J2 L3 hj es ev c2 t2 i2 to df bl ac f2 l2
          obtain ⟨wJ, frJ, -⟩ := stat J2 f2
          obtain ⟨p1, p2, p3, p4⟩ := gPaid_df (fr := fr) (rl := rl) (ru := ru) hg pfW_ok hok i2 ev.1
          have l20 := (gRun_end (fr := fr) hg pfW_ok hok 21 (sFirst g) s [] [] (by omega) (pInv_0 hg i2) ev.1).1
          have es : wGs pfW g fr rl ru F m (gPaid g rl ru (gRun pfW g fr F 21 (sFirst g) s [] []), (gRun pfW g fr F 21 (sFirst g) s [] []).2.1.2) = _ := es
          have ev2 : wGv vW pfW g fr rl ru F m (gPaid g rl ru (gRun pfW g fr F 21 (sFirst g) s [] []), (gRun pfW g fr F 21 (sFirst g) s [] []).2.1.2) := ev.2
          have mt := fun post' hp => k_meet (G := G) (n := n) (I := J2) (L := L3) (q := q) (post := post') (T := tWp) (V := vW) (pf := pfW) (s := s) (fA := fA) hX hO hok wJ.1 (fun m => k_pickW) tWp_st pfW_ok hfA wJ.2.1 frJ wJ.2.2.1 wJ.2.2.2 c2 t2 i2 ev.1 hp
          generalize gRun pfW g fr F 21 (sFirst g) s [] [] = S at *
          have note : ∀ (J3 : zI) (L4 : zL), kC g (gPaid g rl ru S) 65 66 67 J3 → tWp S.2.1.2 J3 L4 → kDn g 79 81 82 S.2.2.1 J3 → kSk g 79 S.2.2.2.2 J3 → pFr (pMt 79 80 81 82 83 65 66 67) J2 J3 → lPk L3 L4 → ∀ post' : zPo, (∀ J4 : zI, zQ G 248 (n + 5) post 63 [some (.ref 79), some (.ref 62), some (.ref 65), some (.ref FO), some rv, some (.ref fA), some (.int (nI gs)), some (.int (nI i)), some (.int (nI (jj + 1)))] [] J4 L4 (zR1 q) → post' none J4 L4 (zR1 q)) → zC G (n + 5) 250 [.ref 79] J3 L4 (zR1 q) post' := by
            intro J3 L4 c3 t3 d3 k3 f3 l3 post' hp'
            
            have f23 : pFr pGo I J3 := pFr_tr f2 (pFr_le f3 fun o k z => pMt_go z)
            have to3 : kTo g bs J3 := by
              unfold kTo
              rw [f3 79 17 (fun w => by rcases w with (z | z | z | z | z | z | z | z | z | z) | z | z <;> omega), show J3 88 = J2 88 from funext fun k => f3 88 k (fun w => by rcases w with (z | z | z | z | z | z | z | z | z | z) | z | z <;> omega)]
              exact to
            refine k_noteTouched (n := n + 2) (stat J3 f23).1.2.1 d3 k3 (by have := l20.2.2.2.1; have := l20.2.2.2.2; omega) p2 (by omega) to3 (fun J4 to4 f4 => ?_)
            have ro : ∀ o, o ≠ 88 → o ≠ 79 → J4 o = J3 o := fun o z1 z2 => funext fun k => f4 o k (fun w => w.elim z1 (fun w => z2 w.1))
            have r79 : ∀ k, k ≠ 17 → J4 79 k = J3 79 k := fun k hk => f4 79 k (fun w => w.elim (by decide) (fun w => hk w.2))
            exact hp' J4 (ihm (jj + 1) _ _ J4 L4 (by omega) es ev2 (kC_of c3 (ro 66 (by decide) (by decide)) (ro 67 (by decide) (by decide)) (fun k _ => by rw [ro 65 (by decide) (by decide)])) (tWp_st _ _ _ _ _ t3 (r79 13 (by decide)) (r79 14 (by decide)) (ro 86 (by decide) (by decide)) (ro 87 (by decide) (by decide)) rfl) p3 to4 (cDf_tr (cDf_le df (fun b hb => List.mem_append_left _ hb)) (cDf_le p1 (fun b hb => List.mem_append_right _ hb))) (by rw [List.length_append]; omega) (mAc_of ac (fun k hk => l3 79 k (by omega))) (pFr_tr f23 (pFr_le f4 fun o k z => by unfold pGo; omega)) (lGo_tr l2 (lPk_go l3)))
          rw [← nI_1] at note
          rcases hrv with rfl | ⟨o, rfl⟩ <;> exact b248_63 (pk_le gs jj (fun z => absurd z (by omega)) (fun _ => mt _ (fun J3 L4 c3 t3 _ d3 k3 f3 l3 => And.intro rfl (note J3 L4 c3 t3 d3 k3 f3 l3 _ (fun J4 hh => hh)))) rfl rfl (by omega) (by omega))
      have a63 := at63 gs 0 (c, (π, [], [], 1000000000)) [] (zup (zup J 79 13 0) 79 17 0) (zup L1 79 15 1000000000) (by omega) y1 y2 (kC_of jc (by rw [zup_ne (by decide), zup_ne (by decide)]) (by rw [zup_ne (by decide), zup_ne (by decide)]) (fun k _ => by rw [zup_ne (by decide), zup_ne (by decide)])) ⟨by rw [zup_k (by decide), zup_self]; rfl, by rw [zup_k (by decide), zup_k (by decide)]; exact j14, hπl, fun j k hj => by rw [zup_ne (by decide), zup_ne (by decide)]; exact j86 j k hj, (fun j k hj => by cases hj), (fun j k hj => by cases hj), zup_self⟩ hin ⟨by rw [zup_self]; rfl, by decide, fun j b hj => by cases hj⟩ (cDf_0 _ _) (Nat.zero_le _) (mAc_of ha (fun k hk => zup_k (by omega))) (pFr_up (pFr_up jf (by unfold pGo; omega)) (by unfold pGo; omega)) (lGo_tr jl (fun o k z => by rw [zup_ne z]))
      rcases hrv with rfl | ⟨o, rfl⟩ <;> exact b248_35 (pk_le 3000 i (fun z => absurd z (by omega)) (fun _ => a63) rfl rfl (by omega) (by omega))
  have k0 := key 3000 0 [] [] (zup I 79 14 0) (zup (zup (zup (zup (zup L 79 18 0) 79 19 0) 79 20 0) 79 21 0) 79 22 10000) none (by omega) V0 (by rw [r0]; rfl) rfl ⟨rfl, rfl, rfl, rfl, rfl, Nat.zero_le _, Nat.zero_le _⟩ (kC_of hc2 (zup_ne (by decide)) (zup_ne (by decide)) (fun k _ => by rw [zup_ne (by decide)])) (by rw [zup_self]; rfl) (Nat.zero_le _) (fun j k hj => by cases hj) (pFr_up (pFr_0 _ _) (by unfold pGo; omega)) (fun o k z => by rw [zup_ne z, zup_ne z, zup_ne z, zup_ne z, zup_ne z])
  rcases hrv with rfl | ⟨o, rfl⟩ <;> exact zin0 rfl rfl rfl (b248_0 k0)
end
