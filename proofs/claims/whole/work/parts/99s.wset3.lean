-- ===== calls on both: sheet, side, likeness =====
section
variable {G : zG} {n : Nat} {I : zI} {L : zL} {R : zR} {q : zq} {post : zPo} {g : zg} {c : sC} {fr : Nat → Nat} {nr : Nat} {rl : zrl} {ru : Option Nat} {nf : Nat} {fo : Nat → zfo} {en : Nat → Int32} {tx : Nat → Nat} {tn : Nat} {kp : Nat → Bool} {kc : Nat → sC} {wa : List zwt} {ro : List Int64} {t : Nat}
theorem k_entry {k v : Int32} (h : post (some (.int (nI (sEnt k v)))) I L R) : zC G (n + 1) 299 [.int k, .int v] I L R post := by
  have fin : ∀ x : Int32, x = (if k = 0 then v.toInt8.toInt32 else if k = 1 then v.toInt16.toInt32 else v) → zQ G 299 n post 20 [some (.int k), some (.int v), some (.int x)] [] I L R := fun x hx => by
    refine b299_20 ?_
    unfold sEnt at h
    rw [← hx, ← zClp] at h
    exact h
  refine zin0 rfl rfl rfl (b299_0 (And.intro (fun c0 => b299_12 (And.intro (fun c1 => fin _ (by rw [if_neg c0, if_neg c1])) (fun c1 => fin _ (by rw [if_neg c0, if_pos c1])))) (fun c0 => fin _ (by rw [if_pos c0]))))
theorem w_sheet {x y z u : Int32} (h : wB g c fr nr rl ru nf fo en tx tn kp kc wa ro t I L) : zC G (n + 300) 264 [.ref 40, .int x, .int y, .int z, .int u] I L (zR1 q) (wPo G (n + 300) 62 [.ref 0, .int x, .int y, .int z, .int u] t) := by
  obtain ⟨hM, hC⟩ := h
  have E : wE t (zup I 0 34 0) L := wE_34 hM hC (by omega)
  have no : ¬ ((0 ≤ x ∧ x ≤ 3) ∧ y ≤ 21) → ∀ v5 v6 v7, zQ G 264 (n + 299) (wPo G (n + 300) 62 [.ref 0, .int x, .int y, .int z, .int u] t) 18 [some (.ref 40), some (.int x), some (.int y), some (.int z), some (.int u), v5, v6, v7] [] I L (zR1 q) := fun w v5 v6 v7 => b264_18 ⟨⟨_, rfl⟩, q, rfl, c_sheet hM.2.2.1 (fun a b => absurd ⟨a, b⟩ w) (fun a b => absurd ⟨a, b⟩ w) (fun _ => ⟨rfl, ⟨q, rfl⟩, E⟩)⟩
  refine zin0 rfl rfl rfl (b264_0 (And.intro (fun cx => no (fun w => Int32.not_lt.mpr w.1.1 cx) _ _ _) (fun cx => And.intro (fun c2 => no (fun w => Int32.not_lt.mpr w.1.2 c2) _ _ _) (fun c2 => And.intro (fun c3 => b264_20 ?_) (fun c3 => no (fun w => c3 w.2) _ _ _)))))
  have hx : 0 ≤ x ∧ x ≤ 3 := ⟨Int32.not_lt.mp cx, Int32.not_lt.mp c2⟩
  have y21 : y ≤ 21 := c3
  -- the loop
  have main : (x ≠ 3 → 0 ≤ y) → ∀ b : Bool, b = decide (x = 3) → ∀ v6 v7, zQ G 264 (n + 299) (wPo G (n + 300) 62 [.ref 0, .int x, .int y, .int z, .int u] t) 44 [some (.ref 40), some (.int x), some (.int y), some (.int z), some (.int u), some (.int (zbo b)), v6, v7] [] I L (zR1 q) := by
    intro hy b hb v6 v7
    have fin : ∀ J : zI, (∀ s, s < 21 → J 69 s = nI (sShF x y z u s)) → (∀ o, ¬ (o = 69) → J o = I o) → wPo G (n + 300) 62 [.ref 0, .int x, .int y, .int z, .int u] t (some (.int (if x = 3 then -3 else nI (sSum (sShF x y z u) 21)))) J L (zR1 q) := fun J js ho => by
      have k1 : kFr (sShF x y z u) 69 J := fun s hs => ⟨js s hs, sShF_le x y z u s⟩
      have C1 : wC g c ((sShF x y z u)) nr rl ru nf fo en tx tn kp kc wa ro t J L := ⟨kZ_of hC.1 (fun o z1 z2 => ho o (by omega)), ⟨kD_of hC.2.1.1 (ho 43 (by omega)), kTx_of hC.2.1.2 (ho 41 (by omega)) (ho 42 (by omega))⟩, kC_of hC.2.2.1 (ho 63 (by omega)) (ho 64 (by omega)) (fun k _ => by rw [ho 62 (by omega)]), kKp_of hC.2.2.2.1 (fun o z1 z2 => ho o (by omega)), k1, kRs_of hC.2.2.2.2.2.1 (by rw [ho 40 (by omega)]) (by rw [ho 40 (by omega)]) (fun o z1 z2 => ho o (by omega)), kFs_of hC.2.2.2.2.2.2.1 (by rw [ho 40 (by omega)]) (fun o z => ho o (by omega)), (fun k hk => by rw [ho 77 (by omega), ho 84 (by omega)]; exact hC.2.2.2.2.2.2.2.1 k hk), kEn_of hC.2.2.2.2.2.2.2.2.1 (ho 94 (by omega)), kWa_of hC.2.2.2.2.2.2.2.2.2.1 (by rw [ho 40 (by omega)]) (ho 95 (by omega)), kRow_of hC.2.2.2.2.2.2.2.2.2.2.1 (ho 96 (by omega)) rfl, kMk_of hC.2.2.2.2.2.2.2.2.2.2.2 (ho 89 (by omega)) (ho 91 (by omega)) (ho 92 (by omega))⟩
      have M1 := wM_lo hM (I' := J) (L' := L) (fun o z => ho o (by omega)) (fun _ _ => rfl)
      refine ⟨⟨_, rfl⟩, q, rfl, c_sheet M1.2.2.1 (fun _ _ _ I2 m2 _ hf0 => ⟨rfl, ⟨q, rfl⟩, ?_⟩) (fun _ _ a b => absurd b (Int32.not_lt.mpr (hy a))) (fun w => absurd ⟨hx, y21⟩ w)⟩
      have hf : ∀ o k, ¬ (o = 6 ∨ (o = 0 ∧ k = 34)) → I2 o k = J o k := fun o k z => hf0 o k (by omega) (by omega)
      have M2 : wM g c ((sShF x y z u)) nr rl ru nf fo en tx tn kp kc wa ro I2 L := ⟨⟨⟨M1.1.1.1, fun k z => (hf 0 k (by omega)).trans (M1.1.1.2 k z)⟩, mPos_of M1.1.2 (funext fun k => hf 1 k (by omega)) (funext fun k => hf 2 k (by omega)) (funext fun k => hf 3 k (by omega))⟩, ⟨mC_of M1.2.1.1 (funext fun k => hf 5 k (by omega)) (funext fun k => hf 4 k (by omega)) (hf 0 14 (by omega)) (hf 0 15 (by omega)) (hf 0 16 (by omega)), M1.2.1.2⟩, m2, mRl_of M1.2.2.2.1 (hf 0 18 (by omega)) (hf 0 22 (by omega)) (funext fun k => hf 7 k (by omega)) (funext fun k => hf 8 k (by omega)) (funext fun k => hf 9 k (by omega)), mFo_fr M1.2.2.2.2.1 (hf 0 23 (by omega)) (funext fun k => hf 10 k (by omega)) (funext fun k => hf 11 k (by omega)) (funext fun k => hf 12 k (by omega)) (funext fun k => hf 14 k (by omega)) rfl, (fun k hk => (hf 15 k (by omega)).trans (M1.2.2.2.2.2.1 k hk)), mTx_fr M1.2.2.2.2.2.2.1 (hf 0 31 (by omega)) (funext fun k => hf 16 k (by omega)), ⟨fun i hi => (hf 29 i (by omega)).trans (M1.2.2.2.2.2.2.2.1.1 i hi), fun i hi z => ⟨mK_of (M1.2.2.2.2.2.2.2.1.2 i hi z).1 (funext fun k => hf 30 k (by omega)) (funext fun k => hf 31 k (by omega)) (funext fun k => hf 32 k (by omega)), (M1.2.2.2.2.2.2.2.1.2 i hi z).2⟩⟩, mWa_of M1.2.2.2.2.2.2.2.2.1 (hf 0 66 (by omega)) (funext fun k => hf 36 k (by omega)) (funext fun k => hf 37 k (by omega)) (funext fun k => hf 38 k (by omega)) (funext fun k => hf 39 k (by omega)), ⟨mRow_fr M1.2.2.2.2.2.2.2.2.2.1.1 (hf 0 33 (by omega)) rfl, M1.2.2.2.2.2.2.2.2.2.1.2⟩, (hf 0 35 (by omega)).trans M1.2.2.2.2.2.2.2.2.2.2⟩
      exact ⟨g, c, _, nr, rl, ru, nf, fo, en, _, _, kp, kc, wa, ro, t, by omega, M2, wC_hi C1 (fun o z => funext fun k => hf o k (by omega)) rfl⟩
    have key : ∀ (j i : Nat) (J : zI), i + j = 21 → (∀ s, s < i → J 69 s = nI (sShF x y z u s)) → (∀ o, ¬ (o = 69) → J o = I o) → zQ G 264 (n + 299) (wPo G (n + 300) 62 [.ref 0, .int x, .int y, .int z, .int u] t) 50 [some (.ref 40), some (.int x), some (.int y), some (.int z), some (.int u), some (.int (zbo b)), some (.int (nI (sSum (sShF x y z u) i))), some (.int (nI i))] [] J L (zR1 q) := by
      intro j
      induction j with
      | zero =>
        intro i J hi hs ho
        have e21 : i = 21 := by omega
        subst e21
        have f := fin J hs ho
        refine b264_50 (pk_le 21 21 (fun _ => b264_111 (zbo_eq (fun d => b264_121 (b264_123 ?_)) (fun d => b264_123 ?_))) (fun z => absurd z (by omega)) rfl rfl (by omega) (by omega))
        · rw [if_neg (fun w => by rw [decide_eq_true w] at hb; rw [hb] at d; cases d)] at f
          exact f
        · rw [if_pos (of_decide_eq_true (hb.symm.trans d))] at f
          exact f
      | succ j ih =>
        intro i J hi hs ho
        have hi21 : i < 21 := by omega
        have vi : vp_in (nI i) 21 := vp_in_nI hi21 (by decide)
        have ec : (nI i).toNatClampNeg = i := nI_clamp (by omega)
        have at92 : ∀ v : Int32, v = nI (sShF x y z u i) → zQ G 264 (n + 299) (wPo G (n + 300) 62 [.ref 0, .int x, .int y, .int z, .int u] t) 92 [some (.ref 40), some (.int x), some (.int y), some (.int z), some (.int u), some (.int (zbo b)), some (.int (nI (sSum (sShF x y z u) i))), some (.int (nI i))] [.int v, .int (nI i), .ref 69] J L (zR1 q) := fun v hv => by
          refine b264_92 (And.intro vi (And.intro vi ?_))
          rw [ec, zup_self, hv]
          have qq := ih (i + 1) (zup J 69 i (nI (sShF x y z u i))) (by omega) (fun s hs2 => by
            rw [zup_eq]
            by_cases d : s = i
            · rw [if_pos d, d]
            · rw [if_neg d]
              exact hs s (by omega)) (fun o w => by rw [zup_ne w]; exact ho o w)
          rw [← nI_1, show sSum (sShF x y z u) (i + 1) = sSum (sShF x y z u) i + sShF x y z u i from rfl, ← nI_add] at qq
          exact qq
        refine b264_50 (pk_le 21 i (fun z => absurd z (by omega)) (fun _ => (fun z : _ ∧ _ => And.intro z.2 z.1) (zbo_eq (fun d => ?_) (fun d => b264_91 (at92 0 ?_)))) rfl rfl (by omega) (by omega))
        · have hx3 : ¬ x = 3 := fun w => by rw [decide_eq_true w] at hb; rw [hb] at d; cases d
          exact And.intro (fun w => b264_91 (at92 0 (by rw [sShF_0 (Or.inr w)]; rfl))) (fun w => k_entry (at92 _ (by rw [sShF_1 (fun w2 => w2.elim hx3 w)])))
        · rw [sShF_0 (Or.inl (of_decide_eq_true (hb.symm.trans d)))]
          rfl
    exact b264_44 (key 21 0 I (by omega) (fun s hs => absurd hs (Nat.not_lt_zero _)) (fun _ _ => rfl))
  have at30 : ∀ b : Bool, b = decide (x = 3) → ∀ v5 v6 v7, zQ G 264 (n + 299) (wPo G (n + 300) 62 [.ref 0, .int x, .int y, .int z, .int u] t) 30 [some (.ref 40), some (.int x), some (.int y), some (.int z), some (.int u), v5, v6, v7] [.int (zbo b)] I L (zR1 q) := fun b hb v5 v6 v7 => by
    refine b264_30 ((fun z : _ ∧ _ => And.intro z.2 z.1) (zbo_eq (fun d => ?_) (fun d => main (fun w => absurd (of_decide_eq_true (hb.symm.trans d)) w) b hb v6 v7)))
    have hx3 : ¬ x = 3 := fun w => by rw [decide_eq_true w] at hb; rw [hb] at d; cases d
    exact And.intro (fun w => main (fun _ => w) b hb v6 v7) (fun w => ⟨⟨_, rfl⟩, q, rfl, c_sheet hM.2.2.1 (fun _ _ a => absurd (a hx3) w) (fun _ _ _ _ => ⟨rfl, ⟨q, rfl⟩, E⟩) (fun w2 => absurd ⟨hx, y21⟩ w2)⟩)
  exact And.intro (fun c3 => b264_29 (at30 false (decide_eq_false c3).symm _ _ _)) (fun c3 => at30 true (decide_eq_true c3).symm _ _ _)
/-- what both keep when the boxes become others -/
theorem w_clear {g' : zg} {I1 I2 : zI} (hM : wM g c fr nr rl ru nf fo en tx tn kp kc wa ro I L) (hC : wC g c fr nr rl ru nf fo en tx tn kp kc wa ro t I L) (hz : kZ g' I2) (hk : ∀ g, gOk g → kC g (cClr c) 62 63 64 I2) (h5 : ∀ i, i < 3 → I2 (98 + 3 * i) 5 = 0) (ho : ∀ o k, ¬ (kp5 o k ∨ (44 ≤ o ∧ o ≤ 64)) → I2 o k = I o k) : wC g' ((cClr c)) fr nr rl ru nf fo en tx tn ((fun _ => false)) kc wa ro t I2 L := by
  have h2 : ∀ o, ¬ (o = 98 ∨ o = 101 ∨ o = 104 ∨ (44 ≤ o ∧ o ≤ 64)) → I2 o = I o := fun o z => funext fun k => ho o k (by unfold kp5; omega)
  exact ⟨hz, ⟨kD_of hC.2.1.1 (h2 43 (by omega)), kTx_of hC.2.1.2 (h2 41 (by omega)) (h2 42 (by omega))⟩, hk g' hz.1.1, fun i hi => ⟨h5 i hi, fun z => by cases z⟩, kFr_of hC.2.2.2.2.1 (h2 69 (by omega)), kRs_of hC.2.2.2.2.2.1 (by rw [h2 40 (by omega)]) (by rw [h2 40 (by omega)]) (fun o z1 z2 => h2 o (by omega)), kFs_of hC.2.2.2.2.2.2.1 (by rw [h2 40 (by omega)]) (fun o z => h2 o (by omega)), (fun k hk => by rw [h2 77 (by omega), h2 84 (by omega)]; exact hC.2.2.2.2.2.2.2.1 k hk), kEn_of hC.2.2.2.2.2.2.2.2.1 (h2 94 (by omega)), kWa_of hC.2.2.2.2.2.2.2.2.2.1 (by rw [h2 40 (by omega)]) (h2 95 (by omega)), kRow_of hC.2.2.2.2.2.2.2.2.2.2.1 (h2 96 (by omega)) rfl, kMk_of hC.2.2.2.2.2.2.2.2.2.2.2 (h2 89 (by omega)) (h2 91 (by omega)) (h2 92 (by omega))⟩
theorem w_clearM {g' : zg} {I2 : zI} (hM : wM g c fr nr rl ru nf fo en tx tn kp kc wa ro I L) (hg : mG g' I2) (hm : mPos g' I2) (hc : mC (cClr c) I2) (h29 : ∀ i, i < 3 → I2 29 i = 0) (hf : ∀ o k, ¬ (o = 1 ∨ o = 2 ∨ o = 3 ∨ o = 4 ∨ o = 5 ∨ o = 29 ∨ (o = 0 ∧ (k < 9 ∨ k = 14 ∨ k = 34))) → I2 o k = I o k) : wM g' ((cClr c)) fr nr rl ru nf fo en tx tn ((fun _ => false)) kc wa ro I2 L := ⟨⟨hg, hm⟩, ⟨hc, cIn_clr hM.2.1.2.1⟩, (fun s hs => ⟨(hf 6 s (by omega)).trans (hM.2.2.1 s hs).1, (hM.2.2.1 s hs).2⟩), mRl_of hM.2.2.2.1 (hf 0 18 (by omega)) (hf 0 22 (by omega)) (funext fun k => hf 7 k (by omega)) (funext fun k => hf 8 k (by omega)) (funext fun k => hf 9 k (by omega)), mFo_fr hM.2.2.2.2.1 (hf 0 23 (by omega)) (funext fun k => hf 10 k (by omega)) (funext fun k => hf 11 k (by omega)) (funext fun k => hf 12 k (by omega)) (funext fun k => hf 14 k (by omega)) rfl, (fun k hk => (hf 15 k (by omega)).trans (hM.2.2.2.2.2.1 k hk)), mTx_fr hM.2.2.2.2.2.2.1 (hf 0 31 (by omega)) (funext fun k => hf 16 k (by omega)), ⟨fun i hi => h29 i hi, fun i hi z => by cases z⟩, mWa_of hM.2.2.2.2.2.2.2.2.1 (hf 0 66 (by omega)) (funext fun k => hf 36 k (by omega)) (funext fun k => hf 37 k (by omega)) (funext fun k => hf 38 k (by omega)) (funext fun k => hf 39 k (by omega)), ⟨mRow_fr hM.2.2.2.2.2.2.2.2.2.1.1 (hf 0 33 (by omega)) rfl, hM.2.2.2.2.2.2.2.2.2.1.2⟩, (hf 0 35 (by omega)).trans hM.2.2.2.2.2.2.2.2.2.2⟩
theorem w_side {x : Int32} (h : wB g c fr nr rl ru nf fo en tx tn kp kc wa ro t I L) : zC G (n + 300) 261 [.ref 40, .int x] I L (zR1 q) (wPo G (n + 300) 59 [.ref 0, .int x] t) := by
  obtain ⟨hM, hC⟩ := h
  have hall := hM.2.1.2.1
  have hemp := cIn_emp hM.2.1.2
  have no : xOut x 2 → ∀ v, zQ G 261 (n + 299) (wPo G (n + 300) 59 [.ref 0, .int x] t) 9 [some (.ref 40), some (.int x), v] [] I L (zR1 q) := fun z v => b261_9 ⟨⟨_, rfl⟩, q, rfl, c_side hM.1.1 hM.2.1.1 hall hemp (fun v e hv => absurd z (xOut_no (by omega) (by decide) e)) (fun _ => ⟨rfl, ⟨q, rfl⟩, wE_34 hM hC (by omega)⟩)⟩
  refine zin0 rfl rfl rfl (b261_0 ?_)
  rcases pk_ix x (n := 2) (by decide) with c0 | c0 | ⟨v, hv, rfl⟩
  · exact And.intro (fun _ => no (.inl c0) _) (fun z => absurd c0 z)
  · exact And.intro (fun z => no (.inl z) _) (fun z => And.intro (fun w => absurd w (xOut_le (m := 1) (by decide) (.inr c0) z)) (fun _ => no (.inr c0) _))
  refine And.intro (fun z => absurd z (nI_pos (by omega))) (fun _ => pk_le v 1 (fun _ => b261_11 ?_) (fun z => absurd z (by omega)) rfl rfl (by omega) (by omega))
  obtain ⟨z1, z2, z3, z4, z5⟩ := hC.1
  show zC G (n + 299) 294 [.ref 40] (zup I 51 2 (nI v)) L (zR1 q) _
  obtain ⟨I1, hI1⟩ : ∃ I1 : zI, I1 = zup I 51 2 (nI v) := ⟨_, rfl⟩
  rw [← hI1]
  have a1 : ∀ o, o ≠ 51 → I1 o = I o := fun o z => by rw [hI1, zup_ne z]
  have a2 : ∀ k, k ≠ 2 → I1 51 k = I 51 k := fun k z => by rw [hI1, zup_k z]
  refine w_emptyChest hall (kC_of hC.2.2.1 (a1 63 (by decide)) (a1 64 (by decide)) (fun k _ => by rw [a1 62 (by decide)])) (fun I2 k2 h5 o2 => ?_)
  have b1 : ∀ o, 44 ≤ o → o ≤ 61 → I2 o = I1 o := fun o w1 w2 => funext fun k => o2 o k (by unfold kp5; omega)
  have hz1 : kZ (fup g 8 v) I1 := by
    have e51 : ∀ o, o ≠ 51 → I1 o = I o := a1
    refine ⟨kG_8 g v (kG_of z1 (a1 45 (by decide))) (by omega), (a2 1 (by decide)).trans z2, by rw [hI1]; exact zup_self, ?_, ?_⟩
    · rw [a1 44 (by decide)]
      exact z4.imp id (fun w => ⟨w.1, kTb_8 g v (kTb_of w.2 (a1 46 (by decide)) (a1 47 (by decide)) (a1 48 (by decide)) (a1 49 (by decide)) (by rw [a1 44 (by decide)]))⟩)
    · rw [a1 44 (by decide), a2 14 (by decide)]
      exact z5.imp id (fun w => ⟨w.1, kLs_8 g v ⟨kLt_of w.2.1.1 (a2 13 (by decide)) (a1 57 (by decide)) (a1 58 (by decide)), kLi_of w.2.1.2 (a1 52 (by decide)) (a1 53 (by decide)) (a1 54 (by decide)) (a1 55 (by decide)) (a1 56 (by decide)) (a1 59 (by decide)) (a1 60 (by decide))⟩, w.2.2⟩)
  have C2 := w_clear (I1 := I1) (g' := fup g 8 v) hM hC (kZ_of hz1 b1) k2 h5 (fun o k z => (o2 o k (fun w => z (w.imp id (fun w => by omega)))).trans (by rw [a1 o (by omega)]))
  have M2 := wM_lo hM (I' := I2) (L' := L) (fun o z => funext fun k => (o2 o k (by unfold kp5; omega)).trans (by rw [a1 o (by omega)])) (fun _ _ => rfl)
  have fin : wPo G (n + 300) 59 [.ref 0, .int (nI v)] t (some (.int (nI (g 8)))) I2 L (zR1 q) := by
    refine ⟨⟨_, rfl⟩, q, rfl, c_side M2.1.1 M2.2.1.1 hall hemp (fun v2 e2 hv2 I3 g3 c3 h29 _ f3 => ?_) (fun z => absurd z (xOut_no hv (by decide) rfl))⟩
    have ev : v2 = v := (nI_inj (by omega) (by omega) e2).symm
    subst ev
    have hf : ∀ o k, ¬ (o = 4 ∨ o = 5 ∨ o = 29 ∨ (o = 0 ∧ (k = 14 ∨ k = 34 ∨ k = 7 ∨ k = 8))) → I3 o k = I2 o k := fun o k z => f3 o k (tSd_no z)
    exact ⟨rfl, ⟨q, rfl⟩, ⟨_, _, fr, nr, rl, ru, nf, fo, en, _, _, _, kc, wa, ro, t, by omega, w_clearM M2 g3 (mPos_8 g v2 (mPos_of M2.1.2 (funext fun k => hf 1 k (by omega)) (funext fun k => hf 2 k (by omega)) (funext fun k => hf 3 k (by omega)))) c3 h29 (fun o k z => hf o k (by omega)), wC_hi C2 (fun o z => funext fun k => hf o k (by omega)) rfl⟩⟩
  rw [← z3] at fin
  exact fin
theorem w_likeness {b : Bool} (h : wB g c fr nr rl ru nf fo en tx tn kp kc wa ro t I L) : zC G (n + 300) 262 [.ref 40, .int (zbo b)] I L (zR1 q) (wPo G (n + 300) 60 [.ref 0, .int (zbo b)] t) := by
  obtain ⟨hM, hC⟩ := h
  have hall := hM.2.1.2.1
  have hemp := cIn_emp hM.2.1.2
  have hg := hM.1.1.1
  have g7 := hg.2.2.2.2.2.2.2.1
  have hv1 : (if b = true then 1 else 0) ≤ 1 := by split <;> omega
  have eb : zbo b = nI (if b = true then 1 else 0) := by cases b <;> rfl
  obtain ⟨z1, z2, z3, z4, z5⟩ := hC.1
  refine zin0 rfl rfl rfl (b262_0 (And.intro ⟨zbo_nar b, zbo_fit b⟩ ?_))
  refine zin0 rfl rfl rfl (b186_0 (And.intro ⟨rfl, rfl⟩ ?_))
  show zC G (n + 299) 294 [.ref 40] (zup (zup I 51 1 (zbo b)) 51 14 0) L (zR1 q) _
  obtain ⟨I1, hI1⟩ : ∃ I1 : zI, I1 = zup (zup I 51 1 (zbo b)) 51 14 0 := ⟨_, rfl⟩
  rw [← hI1]
  have a1 : ∀ o, o ≠ 51 → I1 o = I o := fun o z => by rw [hI1, zup_ne z, zup_ne z]
  have a2 : ∀ k, k ≠ 1 → k ≠ 14 → I1 51 k = I 51 k := fun k y1 y2 => by rw [hI1, zup_k y2, zup_k y1]
  refine w_emptyChest hall (kC_of hC.2.2.1 (a1 63 (by decide)) (a1 64 (by decide)) (fun k _ => by rw [a1 62 (by decide)])) (fun I2 k2 h5 o2 => ?_)
  have b1 : ∀ o, 44 ≤ o → o ≤ 61 → I2 o = I1 o := fun o w1 w2 => funext fun k => o2 o k (by unfold kp5; omega)
  have hz1 : kZ (fup g 7 (if b = true then 1 else 0)) I1 := by
    refine ⟨kG_7 g _ (kG_of z1 (a1 45 (by decide))) hv1, by rw [hI1, zup_k (by decide), zup_self, eb]; rfl, (a2 2 (by decide) (by decide)).trans z3, ?_, Or.inl (by rw [hI1, zup_self])⟩
    rw [a1 44 (by decide)]
    exact z4.imp id (fun w => ⟨w.1, kTb_7 g _ (kTb_of w.2 (a1 46 (by decide)) (a1 47 (by decide)) (a1 48 (by decide)) (a1 49 (by decide)) (by rw [a1 44 (by decide)]))⟩)
  have C2 := w_clear (I1 := I1) (g' := fup g 7 (if b = true then 1 else 0)) hM hC (kZ_of hz1 b1) k2 h5 (fun o k z => (o2 o k (fun w => z (w.imp id (fun w => by omega)))).trans (by rw [a1 o (by omega)]))
  have M2 := wM_lo hM (I' := I2) (L' := L) (fun o z => funext fun k => (o2 o k (by unfold kp5; omega)).trans (by rw [a1 o (by omega)])) (fun _ _ => rfl)
  have fin : wPo G (n + 300) 60 [.ref 0, .int (zbo b)] t (some (.int (nI (g 7)))) I2 L (zR1 q) := by
    refine ⟨⟨_, rfl⟩, q, rfl, c_likeness M2.1.1 M2.2.1.1 hall hemp (fun I3 g3 c3 h29 _ f3 => ?_)⟩
    have hf : ∀ o k, ¬ (o = 4 ∨ o = 5 ∨ o = 29 ∨ (o = 0 ∧ (k = 14 ∨ k = 34 ∨ k = 7 ∨ k = 8))) → I3 o k = I2 o k := fun o k z => f3 o k (tSd_no z)
    exact ⟨rfl, ⟨q, rfl⟩, ⟨_, _, fr, nr, rl, ru, nf, fo, en, _, _, _, kc, wa, ro, t, by omega, w_clearM M2 g3 (mPos_7 g _ (mPos_of M2.1.2 (funext fun k => hf 1 k (by omega)) (funext fun k => hf 2 k (by omega)) (funext fun k => hf 3 k (by omega)))) c3 h29 (fun o k z => hf o k (by omega)), wC_hi C2 (fun o z => funext fun k => hf o k (by omega)) rfl⟩⟩
  have nar : narrow .boolean (.int (I 51 1)) = .int (I 51 1) := by
    rw [z2]
    have c : g 7 = 0 ∨ g 7 = 1 := by omega
    rcases c with c | c <;> (rw [c]; rfl)
  rw [← z2] at fin
  exact And.intro nar fin
end
