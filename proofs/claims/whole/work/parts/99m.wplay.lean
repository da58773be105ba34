-- ===== the reference: come, its row as it was =====
section
variable {G : zG} {n : Nat} {I : zI} {L : zL} {q : zq} {post : zPo} {g : zg} {c : sC} {w : uW} {fr : Nat → Nat} {f nr nf : Nat} {F : zfo} {rl : zrl} {ru : Option Nat} {en : Nat → Int32}
theorem c_come3 {y : Int32} (hw : gW g fr nr rl ru f F c I L) (hf : f < nf) (h8 : nf ≤ 8) (h23 : I 0 23 = nI nf) (hok : foOk F) (he : mE en I) (h1 : ∀ k, y = nI k → k ≤ 100 → ∀ (I' : zI) (L' : zL), gW g fr nr rl ru f F (sCm g fr rl ru F k 0 (c, en)).2.1 I' L' → mE (sCm g fr rl ru F k 0 (c, en)).2.2 I' → I' 0 34 = 0 → I' 0 33 = I 0 33 → zFr tQ I I' → (∀ o, o ≠ 25 → o ≠ 27 → o ≠ 28 → L' o = L o) → post (some (.int (sCm g fr rl ru F k 0 (c, en)).1)) I' L' (zR1 q)) (h0 : xOut y 101 → post (some (.int (-1))) (zup I 0 34 0) L (zR1 q)) : zC G (n + 74) 99 [.ref 0, .int (nI f), .int y] I L (zR1 q) post := by
  have hfl := sR_lt hw.1.1 (sR_first g)
  refine zin0 rfl rfl rfl (b99_0 (c_isFoe1 hf h8 h23 (And.intro (fun z => absurd z (by decide)) (fun _ => c_in0N (m := 100) rfl (by omega) (fun k hk hk2 => ?_) (fun ho => And.intro (fun z => absurd rfl z) (fun _ => b99_23 (h0 ho)))))))
  subst hk
  have qq := h1 k rfl hk2
  refine And.intro (fun _ => b99_25 ?_) (fun z => absurd z (by decide))
  have key : ∀ (j i : Nat) (s : zst) (I' : zI) (L' : zL), i + j = k → sCm g fr rl ru F j i s = sCm g fr rl ru F k 0 (c, en) → gW g fr nr rl ru f F s.1 I' L' → mE s.2 I' → I' 0 34 = 0 → I' 0 33 = I 0 33 → zFr tQ I I' → (∀ o, o ≠ 25 → o ≠ 27 → o ≠ 28 → L' o = L o) → zQ G 99 (n + 73) post 27 [some (.ref 0), some (.int (nI f)), some (.int (nI k)), some (.int (nI i))] [] I' L' (zR1 q) := by
    intro j
    induction j with
    | zero =>
      intro i s I' L' hi hs hw' he' h34 h33 hf' hL
      have e : i = k := by omega
      subst e
      obtain ⟨a1, a2, a3, a4, a5, a6, a7, a8⟩ := id hw'
      refine b99_27 (pk_lt i i (fun z => absurd z (by omega)) (fun _ => ?_) rfl rfl (by omega) (by omega))
      refine c_askOdds (fr := fr) (c := s.1) (F := F) ⟨a1, a2, a3, a7, a4⟩ a6.1 (by omega) hok fun I1 L1 y1 y2 y3 => ?_
      have e0 : nI (3 * sFirst g) + 0 = nI (3 * sFirst g + 0) := by rw [show (0 : Int32) = nI 0 from rfl, nI_add]
      have ev : L1 25 (nI (3 * sFirst g) + 0).toNatClampNeg = lN (sOd g fr s.1 F (sFirst g) 0) := by rw [e0, nI_clamp (by omega)]; exact y1 0 (by omega)
      have hle := sOd_le g fr s.1 F (sFirst g) 0
      have hf1 : zFr tQ I I1 := zFr_tr hf' fun o x z => by rw [y2 o (fun a => by subst a; cases z)]
      have hw1 : gW g fr nr rl ru f F s.1 I1 L1 := gW_Q hw hf1 a6 (mC_Q a7 (y2 5 (by decide)) (y2 4 (by decide)) (fun x _ => by rw [y2 0 (by decide)])) ((y3 13 (by decide) (by decide) (by decide)).trans (hL 13 (by decide) (by decide) (by decide)))
      have he1 : mE s.2 I1 := fun x hx => by rw [y2 15 (by decide)]; exact he' x hx
      have h34' : I1 0 34 = 0 := by rw [y2 0 (by decide)]; exact h34
      have h33' : I1 0 33 = I 0 33 := by rw [y2 0 (by decide)]; exact h33
      have hL1 : ∀ o, o ≠ 25 → o ≠ 27 → o ≠ 28 → L1 o = L o := fun o b1 b2 b3 => (y3 o b1 b2 b3).trans (hL o b1 b2 b3)
      refine And.intro (by rw [e0]; exact vp_in_nI (by omega) (by decide)) ?_
      show (¬ lg_cmp (L1 25 (nI (3 * sFirst g) + 0).toNatClampNeg) 0 = 0 → _) ∧ (lg_cmp (L1 25 (nI (3 * sFirst g) + 0).toNatClampNeg) 0 = 0 → _)
      rw [ev]
      rw [sCm] at hs
      rw [← hs] at qq
      dsimp only at qq
      by_cases z : sOd g fr s.1 F (sFirst g) 0 = 0
      · rw [if_pos z] at qq
        refine And.intro (fun z2 => absurd ((lg_cmp_eq _ _).mpr (by rw [z]; rfl)) z2) (fun _ => qq I1 L1 hw1 he1 h34' h33' hf1 hL1)
      · rw [if_neg z] at qq
        refine And.intro (fun _ => b99_51 (pk_le i i (fun _ => b99_62 (b99_27 (pk_lt i (i + 1) (fun _ => b99_68 (qq I1 L1 hw1 he1 h34' h33' hf1 hL1)) (fun z2 => absurd z2 (by omega)) rfl (nI_1 i) (by omega) (by omega)))) (fun z2 => absurd z2 (by omega)) rfl rfl (by omega) (by omega))) (fun z2 => ?_)
        exact absurd ((pk_lEQ (b := 0) (by omega) (by omega)).mp ((lg_cmp_eq _ _).mp z2)) z
    | succ j ih =>
      intro i s I' L' hi hs hw' he' h34 h33 hf' hL
      obtain ⟨a1, a2, a3, a4, a5, a6, a7, a8⟩ := id hw'
      refine b99_27 (pk_lt k i (fun z => absurd z (by omega)) (fun _ => ?_) rfl rfl (by omega) (by omega))
      refine c_askOdds (fr := fr) (c := s.1) (F := F) ⟨a1, a2, a3, a7, a4⟩ a6.1 (by omega) hok fun I1 L1 y1 y2 y3 => ?_
      have e0 : nI (3 * sFirst g) + 0 = nI (3 * sFirst g + 0) := by rw [show (0 : Int32) = nI 0 from rfl, nI_add]
      have ev : L1 25 (nI (3 * sFirst g) + 0).toNatClampNeg = lN (sOd g fr s.1 F (sFirst g) 0) := by rw [e0, nI_clamp (by omega)]; exact y1 0 (by omega)
      have hle := sOd_le g fr s.1 F (sFirst g) 0
      have hf1 : zFr tQ I I1 := zFr_tr hf' fun o x z => by rw [y2 o (fun a => by subst a; cases z)]
      have hw1 : gW g fr nr rl ru f F s.1 I1 L1 := gW_Q hw hf1 a6 (mC_Q a7 (y2 5 (by decide)) (y2 4 (by decide)) (fun x _ => by rw [y2 0 (by decide)])) ((y3 13 (by decide) (by decide) (by decide)).trans (hL 13 (by decide) (by decide) (by decide)))
      have he1 : mE s.2 I1 := fun x hx => by rw [y2 15 (by decide)]; exact he' x hx
      have h34' : I1 0 34 = 0 := by rw [y2 0 (by decide)]; exact h34
      have h33' : I1 0 33 = I 0 33 := by rw [y2 0 (by decide)]; exact h33
      have hL1 : ∀ o, o ≠ 25 → o ≠ 27 → o ≠ 28 → L1 o = L o := fun o b1 b2 b3 => (y3 o b1 b2 b3).trans (hL o b1 b2 b3)
      refine And.intro (by rw [e0]; exact vp_in_nI (by omega) (by decide)) ?_
      show (¬ lg_cmp (L1 25 (nI (3 * sFirst g) + 0).toNatClampNeg) 0 = 0 → _) ∧ (lg_cmp (L1 25 (nI (3 * sFirst g) + 0).toNatClampNeg) 0 = 0 → _)
      rw [ev]
      rw [sCm] at hs
      by_cases z : sOd g fr s.1 F (sFirst g) 0 = 0
      · rw [if_pos z] at hs
        rw [← hs] at qq
        refine And.intro (fun z2 => absurd ((lg_cmp_eq _ _).mpr (by rw [z]; rfl)) z2) (fun _ => qq I1 L1 hw1 he1 h34' h33' hf1 hL1)
      · rw [if_neg z] at hs
        refine And.intro (fun _ => b99_51 (pk_le k i (fun z2 => absurd z2 (by omega)) (fun _ => ?_) rfl rfl (by omega) (by omega))) (fun z2 => ?_)
        · refine c_playCounted hw1 (by omega) hok he1 fun I2 hw2 he2 _ hf2 => And.intro rfl (b99_62 ?_)
          have q2 := ih (i + 1) (sPl1 g fr rl ru F s) I2 L1 (by omega) hs hw2 he2 (by rw [hf2 0 34 rfl]; exact h34') (by rw [hf2 0 33 rfl]; exact h33') (zFr_tr hf1 (tPC_tQ hf2)) hL1
          rw [← nI_1] at q2
          exact q2
        · exact absurd ((pk_lEQ (b := 0) (by omega) (by omega)).mp ((lg_cmp_eq _ _).mp z2)) z
  exact key k 0 (c, en) (zup I 0 34 0) L (by omega) rfl (gW_34 hw) (mE_34 he) rfl (zup_k (by decide)) (zFr_up (zFr_0 _ _) rfl) (fun _ _ _ _ => rfl)
end
-- ===== calls on both: count, odds, play, run =====
theorem iI_4 (a b c d : Int32) : a + b + (c - d) + d = c + b + a := by rw [Int32.add_assoc, Int32.sub_add_cancel, Int32.add_comm a b, Int32.add_comm, ← Int32.add_assoc]
section
variable {g : zg} {c : sC} {fr : Nat → Nat} {nr : Nat} {rl : zrl} {ru : Option Nat} {nf : Nat} {fo : Nat → zfo} {en : Nat → Int32} {tx : Nat → Nat} {tn : Nat} {kp : Nat → Bool} {kc : Nat → sC} {wa : List zwt} {ro : List Int64}
def wCnt (c : sC) (en : Nat → Int32) (nr nf : Nat) (ru : Option Nat) (g : zg) (tn : Nat) (ro : List Int64) : Nat → Int32
  | 0 => nI (10000 - c.2.2.1 - c.2.2.2.1)
  | 1 => nI c.2.2.1
  | 2 => nI c.2.2.2.1
  | 3 => nI (sCO c none)
  | 4 => nI (sCO c (some 0))
  | 5 => nI (sCO c (some 1))
  | 6 => en 0 + en 1 + en 2
  | 7 => en 2
  | 8 => en 1
  | 9 => en 0
  | 10 => en 3
  | 11 => nI nr
  | 12 => nI nf
  | 13 => zon ru
  | 14 => nI (g 8)
  | 15 => nI tn
  | 16 => nI ro.length
  | _ => 0
end
section
variable {G : zG} {n : Nat} {I : zI} {L : zL} {q : zq} {post : zPo} {g : zg} {c : sC} {fr : Nat → Nat} {nr : Nat} {rl : zrl} {ru : Option Nat} {nf : Nat} {fo : Nat → zfo} {en : Nat → Int32} {tx : Nat → Nat} {tn : Nat} {kp : Nat → Bool} {kc : Nat → sC} {wa : List zwt} {ro : List Int64} {t : Nat}
theorem k_moveCount {ts : List Nat} (h : kMs 72 73 ts I) (hp : post (some (.int (nI ts.length))) I L (zR1 q)) : zC G (n + 1) 146 [.ref 72] I L (zR1 q) post := by
  refine zin0 rfl rfl rfl (b146_0 ?_)
  rw [← h.1] at hp
  exact hp
theorem k_moveAt {ts : List Nat} {i x : Nat} (h : kMs 72 73 ts I) (hl : ts.length ≤ 20) (hi : ts[i]? = some x) (hp : post (some (.int (nI x))) I L (zR1 q)) : zC G (n + 1) 147 [.ref 72, .int (nI i)] I L (zR1 q) post := by
  have hil : i < ts.length := (List.getElem?_eq_some_iff.mp hi).1
  refine zin0 rfl rfl rfl (b147_0 (And.intro (fun z => absurd z (nI_pos (by omega))) (fun _ => pk_le ts.length i (fun z => absurd z (by omega)) (fun _ => pk_le 20 i (fun z => absurd z (by omega)) (fun _ => And.intro (vp_in_nI (by omega) (by decide)) (b147_31 ?_)) rfl rfl (by omega) (by omega)) h.1 rfl (by omega) (by omega))))
  rw [nI_clamp (by omega), h.2 i x hi]
  exact hp
theorem w_count {x : Int32} (h : wB g c fr nr rl ru nf fo en tx tn kp kc wa ro t I L) : zC G (n + 300) 276 [.ref 40, .int x] I L (zR1 q) (wPo G (n + 300) 82 [.ref 0, .int x] t) := by
  obtain ⟨hM, hC⟩ := id h
  have hg := hM.1.1.1
  have hin := hM.2.1.2
  have fin : ∀ v : Int32, v = sCountV x (wCnt c en nr nf ru g tn ro) → wPo G (n + 300) 82 [.ref 0, .int x] t (some (.int v)) I L (zR1 q) := fun v hv => ⟨⟨_, rfl⟩, q, rfl, c_count (v := wCnt c en nr nf ru g tn ro) hin.1 hM.2.1.1 hM.2.2.2.2.2.1 rfl rfl rfl rfl rfl rfl rfl rfl rfl rfl rfl hM.2.2.2.1.2.1.symm hM.2.2.2.2.1.2.1.symm hM.2.2.2.1.2.2.1.symm (hM.1.1.2 8 (by decide)).symm hM.2.2.2.2.2.2.1.1.symm hM.2.2.2.2.2.2.2.2.2.1.1.1.symm ⟨by rw [hv], ⟨q, rfl⟩, wE_34 hM hC (by omega)⟩⟩
  have hv : ∀ k : Nat, k ≤ 16 → x.toInt = 0 + (k : Int) → sCountV x (wCnt c en nr nf ru g tn ro) = wCnt c en nr nf ru g tn ro k := by
    intro k hk hx
    have e : x = nI k := Int32.toInt_inj.mp (by rw [hx, nI_toInt (by omega)]; omega)
    subst e
    unfold sCountV
    rw [if_pos ⟨nI_pos' (by omega), (nI_leI (b := 16) (by omega) (by decide)).mpr hk⟩, nI_clamp (by omega)]
  have hE := hC.2.2.2.2.2.2.2.2.1
  have kc1 := hC.2.2.1

  refine zin0 rfl rfl rfl (b276_0 (And.intro (fun z => b276_241 (fin _ ?_)) (fun k off hk hx => ?_)))
  · unfold sCountV
    rw [if_neg]
    rintro ⟨a, b⟩
    have a := Int32.le_iff_toInt_le.mp a
    have b := Int32.le_iff_toInt_le.mp b
    rw [show (0 : Int32).toInt = 0 from by decide] at a
    rw [show (16 : Int32).toInt = 16 from by decide] at b
    omega
  · match k, hk with
    | 0, hk =>
      cases hk
      exact b276_84 (k_inBoxes (Or.inl ⟨rfl, rfl, rfl⟩) hin.1 kc1 (fin _ (hv 0 (by omega) hx).symm))
    | 1, hk =>
      cases hk
      exact b276_92 (fin _ (kc1.2.2.1.trans (hv 1 (by omega) hx).symm))
    | 2, hk =>
      cases hk
      exact b276_100 (fin _ (kc1.2.2.2.1.trans (hv 2 (by omega) hx).symm))
    | 3, hk =>
      cases hk
      exact b276_108 (k_countOpened (mv := none) (fun v hv => by cases hv) hg hin kc1 rfl rfl (fin _ (hv 3 (by omega) hx).symm))
    | 4, hk =>
      cases hk
      exact b276_119 (k_countOpened (mv := some 0) (fun v hv => by injection hv with hv; omega) hg hin kc1 rfl rfl (fin _ (hv 4 (by omega) hx).symm))
    | 5, hk =>
      cases hk
      exact b276_129 (k_countOpened (mv := some 1) (fun v hv => by injection hv with hv; omega) hg hin kc1 rfl rfl (fin _ (hv 5 (by omega) hx).symm))
    | 6, hk =>
      cases hk
      have e : I 94 2 + I 94 1 + I 94 0 + I 94 3 = sCountV x (wCnt c en nr nf ru g tn ro) := by
        rw [hE.1, hE.2.1, hE.2.2.1, hE.2.2.2, iI_4, hv 6 (by omega) hx]
        rfl
      exact b276_139 (And.intro (vp_in_nI (n := 2) (N := 4) (by decide) (by decide)) (And.intro (vp_in_nI (n := 1) (N := 4) (by decide) (by decide)) (And.intro (vp_in_nI (n := 0) (N := 4) (by decide) (by decide)) (And.intro (vp_in_nI (n := 3) (N := 4) (by decide) (by decide)) (fin _ e)))))
    | 7, hk =>
      cases hk
      exact b276_167 (And.intro (vp_in_nI (n := 2) (N := 4) (by decide) (by decide)) (fin _ (hE.2.2.1.trans (hv 7 (by omega) hx).symm)))
    | 8, hk =>
      cases hk
      exact b276_174 (And.intro (vp_in_nI (n := 1) (N := 4) (by decide) (by decide)) (fin _ (hE.2.1.trans (hv 8 (by omega) hx).symm)))
    | 9, hk =>
      cases hk
      have e : I 94 0 + I 94 3 = sCountV x (wCnt c en nr nf ru g tn ro) := by
        rw [hE.1, hE.2.2.2, Int32.sub_add_cancel, hv 9 (by omega) hx]
        rfl
      exact b276_181 (And.intro (vp_in_nI (n := 0) (N := 4) (by decide) (by decide)) (And.intro (vp_in_nI (n := 3) (N := 4) (by decide) (by decide)) (fin _ e)))
    | 10, hk =>
      cases hk
      exact b276_195 (And.intro (vp_in_nI (n := 3) (N := 4) (by decide) (by decide)) (fin _ (hE.2.2.2.trans (hv 10 (by omega) hx).symm)))
    | 11, hk =>
      cases hk
      exact b276_202 (fin _ (hC.2.2.2.2.2.1.2.1.trans (hv 11 (by omega) hx).symm))
    | 12, hk =>
      cases hk
      exact b276_207 (fin _ (hC.2.2.2.2.2.2.1.2.1.trans (hv 12 (by omega) hx).symm))
    | 13, hk =>
      cases hk
      exact b276_212 (fin _ (hC.2.2.2.2.2.1.2.2.1.trans (hv 13 (by omega) hx).symm))
    | 14, hk =>
      cases hk
      exact b276_217 (fin _ (hC.1.2.2.1.trans (hv 14 (by omega) hx).symm))
    | 15, hk =>
      cases hk
      exact b276_225 (k_tHeld hC.2.1.2 (fin _ (hv 15 (by omega) hx).symm))
    | 16, hk =>
      cases hk
      exact b276_233 (k_held hC.2.2.2.2.2.2.2.2.2.2.1 (fin _ (hv 16 (by omega) hx).symm))
    | k + 17, hk => cases hk
end
