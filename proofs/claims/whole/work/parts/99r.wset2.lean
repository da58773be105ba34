-- ===== calls on both: settings =====
theorem mFo_fr {nf : Nat} {fo : Nat → zfo} {I I' : zI} {L L' : zL} (h : mFo nf fo I L) (h23 : I' 0 23 = I 0 23) (h10 : I' 10 = I 10) (h11 : I' 11 = I 11) (h12 : I' 12 = I 12) (h14 : I' 14 = I 14) (hL : L' 13 = L 13) : mFo nf fo I' L' := by
  unfold mFo mFo1
  rw [h23, h10, h11, h12, h14, hL]
  exact h
theorem mTx_fr {tx : Nat → Nat} {tn : Nat} {I I' : zI} (h : mTx tx tn I) (h31 : I' 0 31 = I 0 31) (h16 : I' 16 = I 16) : mTx tx tn I' := by
  unfold mTx
  rw [h31, h16]
  exact h
theorem mRow_fr {ro : List Int64} {I I' : zI} {L L' : zL} (h : mRow ro I L) (h33 : I' 0 33 = I 0 33) (hL : L' 17 = L 17) : mRow ro I' L' := by
  unfold mRow
  rw [h33, hL]
  exact h
theorem tXt_no {o k : Nat} (h : ¬ (o = 41 ∨ o = 42)) : tXt o k = false := by
  cases e : tXt o k with
  | false => rfl
  | true =>
    unfold tXt at e
    simp only [Bool.or_eq_true, Nat.beq_eq] at e
    exact absurd e h
theorem tSd_no {o k : Nat} (h : ¬ (o = 4 ∨ o = 5 ∨ o = 29 ∨ (o = 0 ∧ (k = 14 ∨ k = 34 ∨ k = 7 ∨ k = 8)))) : tSd o k = false := by
  cases e : tSd o k with
  | false => rfl
  | true =>
    unfold tSd tE at e
    simp only [Bool.or_eq_true, Bool.and_eq_true, Nat.beq_eq] at e
    omega
theorem x_neg {x : Int32} (h : x < 0) (h2 : ¬ x < -1) : x = -1 := by
  have a := Int32.lt_iff_toInt_lt.mp h
  have b : ¬ x.toInt < (-1 : Int32).toInt := fun w => h2 (Int32.lt_iff_toInt_lt.mpr w)
  rw [show (0 : Int32).toInt = 0 from by decide] at a
  rw [show (-1 : Int32).toInt = -1 from by decide] at b
  exact Int32.toInt_inj.mp (by rw [show (-1 : Int32).toInt = -1 from by decide]; omega)
section
variable {G : zG} {n : Nat} {I : zI} {L : zL} {q : zq} {post : zPo} {g : zg} {c : sC} {fr : Nat → Nat} {nr : Nat} {rl : zrl} {ru : Option Nat} {nf : Nat} {fo : Nat → zfo} {en : Nat → Int32} {tx : Nat → Nat} {tn : Nat} {kp : Nat → Bool} {kc : Nat → sC} {wa : List zwt} {ro : List Int64} {t : Nat}
theorem w_sign {x : Int32} (h : wB g c fr nr rl ru nf fo en tx tn kp kc wa ro t I L) : zC G (n + 300) 256 [.ref 40, .int x] I L (zR1 q) (wPo G (n + 300) 42 [.ref 0, .int x] t) := by
  obtain ⟨hM, hC⟩ := h
  refine zin0 rfl rfl rfl (b256_0 (k_append hC.2.1.2 (fun c1 I1 t1 f1 => ?_) (fun c1 => ⟨⟨_, rfl⟩, q, rfl, c_sign hM.2.2.2.2.2.2.1 (fun c2 => absurd c2 (by omega)) (fun _ => ⟨rfl, ⟨q, rfl⟩, wE_34 hM hC (by omega)⟩)⟩)))
  have ho : ∀ o, ¬ (o = 41 ∨ o = 42) → I1 o = I o := fun o z => funext fun k => f1 o k (tXt_no z)
  have C1 : wC g c fr nr rl ru nf fo en ((sTxA tx tn x)) ((tn + 4)) kp kc wa ro t I1 L := ⟨kZ_of hC.1 (fun o z1 z2 => ho o (by omega)), ⟨kD_of hC.2.1.1 (ho 43 (by omega)), t1⟩, kC_of hC.2.2.1 (ho 63 (by omega)) (ho 64 (by omega)) (fun k _ => by rw [ho 62 (by omega)]), kKp_of hC.2.2.2.1 (fun o z1 z2 => ho o (by omega)), kFr_of hC.2.2.2.2.1 (ho 69 (by omega)), kRs_of hC.2.2.2.2.2.1 (by rw [ho 40 (by omega)]) (by rw [ho 40 (by omega)]) (fun o z1 z2 => ho o (by omega)), kFs_of hC.2.2.2.2.2.2.1 (by rw [ho 40 (by omega)]) (fun o z => ho o (by omega)), (fun k hk => by rw [ho 77 (by omega), ho 84 (by omega)]; exact hC.2.2.2.2.2.2.2.1 k hk), kEn_of hC.2.2.2.2.2.2.2.2.1 (ho 94 (by omega)), kWa_of hC.2.2.2.2.2.2.2.2.2.1 (by rw [ho 40 (by omega)]) (ho 95 (by omega)), kRow_of hC.2.2.2.2.2.2.2.2.2.2.1 (ho 96 (by omega)) rfl, kMk_of hC.2.2.2.2.2.2.2.2.2.2.2 (ho 89 (by omega)) (ho 91 (by omega)) (ho 92 (by omega))⟩
  have M1 := wM_lo hM (I' := I1) (L' := L) (fun o z => ho o (by omega)) (fun _ _ => rfl)
  refine ⟨⟨_, rfl⟩, q, rfl, c_sign M1.2.2.2.2.2.2.1 (fun c2 I2 t2 _ hf0 => ⟨rfl, ⟨q, rfl⟩, ?_⟩) (fun c2 => absurd c1 (by omega))⟩
  have hf : ∀ o k, ¬ (o = 16 ∨ (o = 0 ∧ (k = 31 ∨ k = 34))) → I2 o k = I1 o k := fun o k z => hf0 o k (by omega) (by omega)
  have M2 : wM g c fr nr rl ru nf fo en ((sTxA tx tn x)) ((tn + 4)) kp kc wa ro I2 L := ⟨⟨⟨M1.1.1.1, fun k z => (hf 0 k (by omega)).trans (M1.1.1.2 k z)⟩, mPos_of M1.1.2 (funext fun k => hf 1 k (by omega)) (funext fun k => hf 2 k (by omega)) (funext fun k => hf 3 k (by omega))⟩, ⟨mC_of M1.2.1.1 (funext fun k => hf 5 k (by omega)) (funext fun k => hf 4 k (by omega)) (hf 0 14 (by omega)) (hf 0 15 (by omega)) (hf 0 16 (by omega)), M1.2.1.2⟩, (fun s hs => ⟨(hf 6 s (by omega)).trans (M1.2.2.1 s hs).1, (M1.2.2.1 s hs).2⟩), mRl_of M1.2.2.2.1 (hf 0 18 (by omega)) (hf 0 22 (by omega)) (funext fun k => hf 7 k (by omega)) (funext fun k => hf 8 k (by omega)) (funext fun k => hf 9 k (by omega)), mFo_fr M1.2.2.2.2.1 (hf 0 23 (by omega)) (funext fun k => hf 10 k (by omega)) (funext fun k => hf 11 k (by omega)) (funext fun k => hf 12 k (by omega)) (funext fun k => hf 14 k (by omega)) rfl, (fun k hk => (hf 15 k (by omega)).trans (M1.2.2.2.2.2.1 k hk)), t2, ⟨fun i hi => (hf 29 i (by omega)).trans (M1.2.2.2.2.2.2.2.1.1 i hi), fun i hi z => ⟨mK_of (M1.2.2.2.2.2.2.2.1.2 i hi z).1 (funext fun k => hf 30 k (by omega)) (funext fun k => hf 31 k (by omega)) (funext fun k => hf 32 k (by omega)), (M1.2.2.2.2.2.2.2.1.2 i hi z).2⟩⟩, mWa_of M1.2.2.2.2.2.2.2.2.1 (hf 0 66 (by omega)) (funext fun k => hf 36 k (by omega)) (funext fun k => hf 37 k (by omega)) (funext fun k => hf 38 k (by omega)) (funext fun k => hf 39 k (by omega)), ⟨mRow_fr M1.2.2.2.2.2.2.2.2.2.1.1 (hf 0 33 (by omega)) rfl, M1.2.2.2.2.2.2.2.2.2.1.2⟩, (hf 0 35 (by omega)).trans M1.2.2.2.2.2.2.2.2.2.2⟩
  exact ⟨g, c, fr, nr, rl, ru, nf, fo, en, _, _, kp, kc, wa, ro, t, by omega, M2, wC_hi C1 (fun o z => funext fun k => hf o k (by omega)) rfl⟩
theorem w_end {x : Int32} (h : wB g c fr nr rl ru nf fo en tx tn kp kc wa ro t I L) : zC G (n + 300) 257 [.ref 40, .int x] I L (zR1 q) (wPo G (n + 300) 43 [.ref 0, .int x] t) := by
  obtain ⟨hM, hC⟩ := h
  have tn60 := hC.2.1.2.2.1
  refine zin0 rfl rfl rfl (b257_0 (k_cutTo hC.2.1.2 (fun k e hk I1 t1 f1 => And.intro rfl ?_) (fun c1 => And.intro rfl ⟨⟨_, rfl⟩, q, rfl, c_end hM.2.2.2.2.2.2.1 (fun k e hk => absurd c1 (xOut_no (by omega) (by omega) e)) (fun _ => ⟨rfl, ⟨q, rfl⟩, wE_34 hM hC (by omega)⟩)⟩)))
  have ho : ∀ o, ¬ (o = 41 ∨ o = 42) → I1 o = I o := fun o z => funext fun k => f1 o k (tXt_no z)
  have C1 : wC g c fr nr rl ru nf fo en tx k kp kc wa ro t I1 L := ⟨kZ_of hC.1 (fun o z1 z2 => ho o (by omega)), ⟨kD_of hC.2.1.1 (ho 43 (by omega)), t1⟩, kC_of hC.2.2.1 (ho 63 (by omega)) (ho 64 (by omega)) (fun k _ => by rw [ho 62 (by omega)]), kKp_of hC.2.2.2.1 (fun o z1 z2 => ho o (by omega)), kFr_of hC.2.2.2.2.1 (ho 69 (by omega)), kRs_of hC.2.2.2.2.2.1 (by rw [ho 40 (by omega)]) (by rw [ho 40 (by omega)]) (fun o z1 z2 => ho o (by omega)), kFs_of hC.2.2.2.2.2.2.1 (by rw [ho 40 (by omega)]) (fun o z => ho o (by omega)), (fun k hk => by rw [ho 77 (by omega), ho 84 (by omega)]; exact hC.2.2.2.2.2.2.2.1 k hk), kEn_of hC.2.2.2.2.2.2.2.2.1 (ho 94 (by omega)), kWa_of hC.2.2.2.2.2.2.2.2.2.1 (by rw [ho 40 (by omega)]) (ho 95 (by omega)), kRow_of hC.2.2.2.2.2.2.2.2.2.2.1 (ho 96 (by omega)) rfl, kMk_of hC.2.2.2.2.2.2.2.2.2.2.2 (ho 89 (by omega)) (ho 91 (by omega)) (ho 92 (by omega))⟩
  have M1 := wM_lo hM (I' := I1) (L' := L) (fun o z => ho o (by omega)) (fun _ _ => rfl)
  refine ⟨⟨_, rfl⟩, q, rfl, c_end M1.2.2.2.2.2.2.1 (fun k2 e2 hk2 I2 t2 _ hf => ⟨rfl, ⟨q, rfl⟩, ?_⟩) (fun c2 => absurd c2 (xOut_no (by omega) (by omega) e))⟩
  have ek : k2 = k := nI_inj (by omega) (by omega) (e2.symm.trans e)
  subst ek
  have M2 : wM g c fr nr rl ru nf fo en tx k2 kp kc wa ro I2 L := ⟨⟨⟨M1.1.1.1, fun k z => (hf 0 k (by omega)).trans (M1.1.1.2 k z)⟩, mPos_of M1.1.2 (funext fun k => hf 1 k (by omega)) (funext fun k => hf 2 k (by omega)) (funext fun k => hf 3 k (by omega))⟩, ⟨mC_of M1.2.1.1 (funext fun k => hf 5 k (by omega)) (funext fun k => hf 4 k (by omega)) (hf 0 14 (by omega)) (hf 0 15 (by omega)) (hf 0 16 (by omega)), M1.2.1.2⟩, (fun s hs => ⟨(hf 6 s (by omega)).trans (M1.2.2.1 s hs).1, (M1.2.2.1 s hs).2⟩), mRl_of M1.2.2.2.1 (hf 0 18 (by omega)) (hf 0 22 (by omega)) (funext fun k => hf 7 k (by omega)) (funext fun k => hf 8 k (by omega)) (funext fun k => hf 9 k (by omega)), mFo_fr M1.2.2.2.2.1 (hf 0 23 (by omega)) (funext fun k => hf 10 k (by omega)) (funext fun k => hf 11 k (by omega)) (funext fun k => hf 12 k (by omega)) (funext fun k => hf 14 k (by omega)) rfl, (fun k hk => (hf 15 k (by omega)).trans (M1.2.2.2.2.2.1 k hk)), t2, ⟨fun i hi => (hf 29 i (by omega)).trans (M1.2.2.2.2.2.2.2.1.1 i hi), fun i hi z => ⟨mK_of (M1.2.2.2.2.2.2.2.1.2 i hi z).1 (funext fun k => hf 30 k (by omega)) (funext fun k => hf 31 k (by omega)) (funext fun k => hf 32 k (by omega)), (M1.2.2.2.2.2.2.2.1.2 i hi z).2⟩⟩, mWa_of M1.2.2.2.2.2.2.2.2.1 (hf 0 66 (by omega)) (funext fun k => hf 36 k (by omega)) (funext fun k => hf 37 k (by omega)) (funext fun k => hf 38 k (by omega)) (funext fun k => hf 39 k (by omega)), ⟨mRow_fr M1.2.2.2.2.2.2.2.2.2.1.1 (hf 0 33 (by omega)) rfl, M1.2.2.2.2.2.2.2.2.2.1.2⟩, (hf 0 35 (by omega)).trans M1.2.2.2.2.2.2.2.2.2.2⟩
  exact ⟨g, c, fr, nr, rl, ru, nf, fo, en, _, _, kp, kc, wa, ro, t, by omega, M2, wC_hi C1 (fun o z => funext fun k => hf o k (by omega)) rfl⟩
theorem kFr_up {fA s v : Nat} (h : kFr fr fA I) (hv : v ≤ 20) : kFr (fup fr s v) fA (zup I fA s (nI v)) := fun k hk => by
  rw [zup_eq]
  unfold fup
  by_cases d : k = s
  · rw [if_pos d, if_pos d]
    exact ⟨rfl, hv⟩
  · rw [if_neg d, if_neg d]
    exact h k hk
theorem w_fresh {x y : Int32} (h : wB g c fr nr rl ru nf fo en tx tn kp kc wa ro t I L) : zC G (n + 300) 263 [.ref 40, .int x, .int y] I L (zR1 q) (wPo G (n + 300) 61 [.ref 0, .int x, .int y] t) := by
  obtain ⟨hM, hC⟩ := h
  have no : (xOut x 21 ∨ xOut y 21) → ∀ v, zQ G 263 (n + 299) (wPo G (n + 300) 61 [.ref 0, .int x, .int y] t) 23 [some (.ref 40), some (.int x), some (.int y), v] [] I L (zR1 q) := fun z v => b263_23 ⟨⟨_, rfl⟩, q, rfl, c_fresh hM.2.2.1 (fun s v e1 e2 hs hv => z.elim (fun z => absurd z (xOut_no hs (by decide) e1)) (fun z => absurd z (xOut_no (by omega) (by decide) e2))) (fun _ => ⟨rfl, ⟨q, rfl⟩, wE_34 hM hC (by omega)⟩)⟩
  refine zin0 rfl rfl rfl (b263_0 ?_)
  rcases pk_ix x (n := 21) (by decide) with c0 | c0 | ⟨s, hs, rfl⟩
  · exact And.intro (fun _ => no (.inl (.inl c0)) _) (fun z => absurd c0 z)
  · exact And.intro (fun z => no (.inl (.inl z)) _) (fun _ => And.intro (fun _ => no (.inl (.inr c0)) _) (fun z => absurd c0 z))
  refine And.intro (fun z => absurd z (nI_pos (by omega))) (fun _ => pk_le 21 s (fun z => absurd z (by omega)) (fun _ => ?_) rfl rfl (by omega) (by omega))
  rcases pk_ix y (n := 21) (by decide) with c0 | c0 | ⟨v, hv, rfl⟩
  · exact And.intro (fun _ => no (.inr (.inl c0)) _) (fun z => absurd c0 z)
  · exact And.intro (fun z => no (.inr (.inl z)) _) (fun z => And.intro (fun w => absurd w (xOut_le (m := 20) (by decide) (.inr c0) z)) (fun _ => no (.inr (.inr c0)) _))
  have ec : (nI s).toNatClampNeg = s := nI_clamp (by omega)
  have vi : vp_in (nI s) 21 := vp_in_nI hs (by decide)
  refine And.intro (fun z => absurd z (nI_pos (by omega))) (fun _ => pk_le v 20 (fun _ => b263_25 (And.intro vi (And.intro vi ?_))) (fun z => absurd z (by omega)) rfl rfl (by omega) (by omega))
  rw [ec, (hC.2.2.2.2.1 s hs).1]
  obtain ⟨I1, hI1⟩ : ∃ I1 : zI, I1 = zup I 69 s (nI v) := ⟨_, rfl⟩
  have k1 : kFr (fup fr s v) 69 I1 := by rw [hI1]; exact kFr_up hC.2.2.2.2.1 (by omega)
  rw [← hI1]
  have ho : ∀ o, ¬ (o = 69) → I1 o = I o := fun o z => by rw [hI1, zup_ne z]
  have C1 : wC g c ((fup fr s v)) nr rl ru nf fo en tx tn kp kc wa ro t I1 L := ⟨kZ_of hC.1 (fun o z1 z2 => ho o (by omega)), ⟨kD_of hC.2.1.1 (ho 43 (by omega)), kTx_of hC.2.1.2 (ho 41 (by omega)) (ho 42 (by omega))⟩, kC_of hC.2.2.1 (ho 63 (by omega)) (ho 64 (by omega)) (fun k _ => by rw [ho 62 (by omega)]), kKp_of hC.2.2.2.1 (fun o z1 z2 => ho o (by omega)), k1, kRs_of hC.2.2.2.2.2.1 (by rw [ho 40 (by omega)]) (by rw [ho 40 (by omega)]) (fun o z1 z2 => ho o (by omega)), kFs_of hC.2.2.2.2.2.2.1 (by rw [ho 40 (by omega)]) (fun o z => ho o (by omega)), (fun k hk => by rw [ho 77 (by omega), ho 84 (by omega)]; exact hC.2.2.2.2.2.2.2.1 k hk), kEn_of hC.2.2.2.2.2.2.2.2.1 (ho 94 (by omega)), kWa_of hC.2.2.2.2.2.2.2.2.2.1 (by rw [ho 40 (by omega)]) (ho 95 (by omega)), kRow_of hC.2.2.2.2.2.2.2.2.2.2.1 (ho 96 (by omega)) rfl, kMk_of hC.2.2.2.2.2.2.2.2.2.2.2 (ho 89 (by omega)) (ho 91 (by omega)) (ho 92 (by omega))⟩
  have M1 := wM_lo hM (I' := I1) (L' := L) (fun o z => ho o (by omega)) (fun _ _ => rfl)
  refine ⟨⟨_, rfl⟩, q, rfl, c_fresh M1.2.2.1 (fun s2 v2 e1 e2 hs2 hv2 I2 m2 _ hf0 => ?_) (fun z => z.elim (fun z => absurd z (xOut_no hs (by decide) rfl)) (fun z => absurd z (xOut_no (by omega) (by decide) rfl)))⟩
  have es : s2 = s := (nI_inj (by omega) (by omega) e1).symm
  have ev : v2 = v := (nI_inj (by omega) (by omega) e2).symm
  subst es ev
  have hf : ∀ o k, ¬ (o = 6 ∨ (o = 0 ∧ k = 34)) → I2 o k = I1 o k := fun o k z => hf0 o k (by omega) (by omega)
  have M2 : wM g c ((fup fr s2 v2)) nr rl ru nf fo en tx tn kp kc wa ro I2 L := ⟨⟨⟨M1.1.1.1, fun k z => (hf 0 k (by omega)).trans (M1.1.1.2 k z)⟩, mPos_of M1.1.2 (funext fun k => hf 1 k (by omega)) (funext fun k => hf 2 k (by omega)) (funext fun k => hf 3 k (by omega))⟩, ⟨mC_of M1.2.1.1 (funext fun k => hf 5 k (by omega)) (funext fun k => hf 4 k (by omega)) (hf 0 14 (by omega)) (hf 0 15 (by omega)) (hf 0 16 (by omega)), M1.2.1.2⟩, m2, mRl_of M1.2.2.2.1 (hf 0 18 (by omega)) (hf 0 22 (by omega)) (funext fun k => hf 7 k (by omega)) (funext fun k => hf 8 k (by omega)) (funext fun k => hf 9 k (by omega)), mFo_fr M1.2.2.2.2.1 (hf 0 23 (by omega)) (funext fun k => hf 10 k (by omega)) (funext fun k => hf 11 k (by omega)) (funext fun k => hf 12 k (by omega)) (funext fun k => hf 14 k (by omega)) rfl, (fun k hk => (hf 15 k (by omega)).trans (M1.2.2.2.2.2.1 k hk)), mTx_fr M1.2.2.2.2.2.2.1 (hf 0 31 (by omega)) (funext fun k => hf 16 k (by omega)), ⟨fun i hi => (hf 29 i (by omega)).trans (M1.2.2.2.2.2.2.2.1.1 i hi), fun i hi z => ⟨mK_of (M1.2.2.2.2.2.2.2.1.2 i hi z).1 (funext fun k => hf 30 k (by omega)) (funext fun k => hf 31 k (by omega)) (funext fun k => hf 32 k (by omega)), (M1.2.2.2.2.2.2.2.1.2 i hi z).2⟩⟩, mWa_of M1.2.2.2.2.2.2.2.2.1 (hf 0 66 (by omega)) (funext fun k => hf 36 k (by omega)) (funext fun k => hf 37 k (by omega)) (funext fun k => hf 38 k (by omega)) (funext fun k => hf 39 k (by omega)), ⟨mRow_fr M1.2.2.2.2.2.2.2.2.2.1.1 (hf 0 33 (by omega)) rfl, M1.2.2.2.2.2.2.2.2.2.1.2⟩, (hf 0 35 (by omega)).trans M1.2.2.2.2.2.2.2.2.2.2⟩
  exact ⟨rfl, ⟨q, rfl⟩, ⟨g, c, _, nr, rl, ru, nf, fo, en, _, _, kp, kc, wa, ro, t, by omega, M2, wC_hi C1 (fun o z => funext fun k => hf o k (by omega)) rfl⟩⟩
theorem w_pay {x : Int32} (h : wB g c fr nr rl ru nf fo en tx tn kp kc wa ro t I L) : zC G (n + 300) 265 [.ref 40, .int x] I L (zR1 q) (wPo G (n + 300) 63 [.ref 0, .int x] t) := by
  obtain ⟨hM, hC⟩ := h
  have hR := hC.2.2.2.2.2.1
  have no : (∀ ru', x = zon ru' → (∀ r, ru' = some r → r < 2 ^ 31) → ∃ r, ru' = some r ∧ nr ≤ r) → ∀ v, zQ G 265 (n + 299) (wPo G (n + 300) 63 [.ref 0, .int x] t) 13 [some (.ref 40), some (.int x), v] [] I L (zR1 q) := fun z v => b265_13 ⟨⟨_, rfl⟩, q, rfl, c_pay hM.2.2.2.1 (fun ru' e hr => by
    obtain ⟨r, e1, e2⟩ := z ru' e (fun r e => by have := hr r e; have := hR.1; omega)
    have := hr r e1
    omega) (fun _ => ⟨rfl, ⟨q, rfl⟩, wE_34 hM hC (by omega)⟩)⟩
  have yes : ∀ ru', x = zon ru' → (∀ r, ru' = some r → r < nr) → ∀ v, zQ G 265 (n + 299) (wPo G (n + 300) 63 [.ref 0, .int x] t) 16 [some (.ref 40), some (.int x), v] [] I L (zR1 q) := fun ru' e hr v => by
    refine b265_16 ?_
    obtain ⟨I1, hI1⟩ : ∃ I1 : zI, I1 = zup I 40 10 x := ⟨_, rfl⟩
    have e10 : I 40 10 = zon ru := hR.2.2.1
    have ho : ∀ o, ¬ (o = 40) → I1 o = I o := fun o z => by rw [hI1, zup_ne z]
    have ho4 : ∀ k, k ≠ 10 → I1 40 k = I 40 k := fun k z => by rw [hI1, zup_k z]
    have C1 : wC g c fr nr rl ru' nf fo en tx tn kp kc wa ro t I1 L := ⟨kZ_of hC.1 (fun o z1 z2 => ho o (by omega)), ⟨kD_of hC.2.1.1 (ho 43 (by omega)), kTx_of hC.2.1.2 (ho 41 (by omega)) (ho 42 (by omega))⟩, kC_of hC.2.2.1 (ho 63 (by omega)) (ho 64 (by omega)) (fun k _ => by rw [ho 62 (by omega)]), kKp_of hC.2.2.2.1 (fun o z1 z2 => ho o (by omega)), kFr_of hC.2.2.2.2.1 (ho 69 (by omega)), ⟨hR.1, (ho4 9 (by decide)).trans hR.2.1, by rw [hI1, zup_self, e], hr, fun r hr2 => ⟨kRu_of (hR.2.2.2.2 r hr2).1 (ho _ (by omega)) (ho _ (by omega)) (ho _ (by omega)), (hR.2.2.2.2 r hr2).2⟩⟩, kFs_of hC.2.2.2.2.2.2.1 (ho4 12 (by decide)) (fun o z => ho o (by omega)), (fun k hk => by rw [ho 77 (by omega), ho 84 (by omega)]; exact hC.2.2.2.2.2.2.2.1 k hk), kEn_of hC.2.2.2.2.2.2.2.2.1 (ho 94 (by omega)), kWa_of hC.2.2.2.2.2.2.2.2.2.1 (ho4 18 (by decide)) (ho 95 (by omega)), kRow_of hC.2.2.2.2.2.2.2.2.2.2.1 (ho 96 (by omega)) rfl, kMk_of hC.2.2.2.2.2.2.2.2.2.2.2 (ho 89 (by omega)) (ho 91 (by omega)) (ho 92 (by omega))⟩
    have M1 := wM_lo hM (I' := I1) (L' := L) (fun o z => ho o (by omega)) (fun _ _ => rfl)
    have fin : wPo G (n + 300) 63 [.ref 0, .int x] t (some (.int (zon ru))) I1 L (zR1 q) := by
      refine ⟨⟨_, rfl⟩, q, rfl, c_pay M1.2.2.2.1 (fun ru2 e2 hr2 I2 m2 _ hf => ?_) (fun z => ?_)⟩
      · have eu : ru2 = ru' := by
          have e3 : zon ru2 = zon ru' := e2.symm.trans e
          have h8 := hR.1
          cases ru2 with
          | none => cases ru' with
            | none => rfl
            | some r => exact absurd e3.symm (zon_ne (by have := hr r rfl; omega))
          | some r2 => cases ru' with
            | none => exact absurd e3 (zon_ne (by have := hr2 r2 rfl; omega))
            | some r => rw [nI_inj (by have := hr2 r2 rfl; omega) (by have := hr r rfl; omega) e3]
        subst eu
        have M2 : wM g c fr nr rl ru2 nf fo en tx tn kp kc wa ro I2 L := ⟨⟨⟨M1.1.1.1, fun k z => (hf 0 k (by omega)).trans (M1.1.1.2 k z)⟩, mPos_of M1.1.2 (funext fun k => hf 1 k (by omega)) (funext fun k => hf 2 k (by omega)) (funext fun k => hf 3 k (by omega))⟩, ⟨mC_of M1.2.1.1 (funext fun k => hf 5 k (by omega)) (funext fun k => hf 4 k (by omega)) (hf 0 14 (by omega)) (hf 0 15 (by omega)) (hf 0 16 (by omega)), M1.2.1.2⟩, (fun s hs => ⟨(hf 6 s (by omega)).trans (M1.2.2.1 s hs).1, (M1.2.2.1 s hs).2⟩), m2, mFo_fr M1.2.2.2.2.1 (hf 0 23 (by omega)) (funext fun k => hf 10 k (by omega)) (funext fun k => hf 11 k (by omega)) (funext fun k => hf 12 k (by omega)) (funext fun k => hf 14 k (by omega)) rfl, (fun k hk => (hf 15 k (by omega)).trans (M1.2.2.2.2.2.1 k hk)), mTx_fr M1.2.2.2.2.2.2.1 (hf 0 31 (by omega)) (funext fun k => hf 16 k (by omega)), ⟨fun i hi => (hf 29 i (by omega)).trans (M1.2.2.2.2.2.2.2.1.1 i hi), fun i hi z => ⟨mK_of (M1.2.2.2.2.2.2.2.1.2 i hi z).1 (funext fun k => hf 30 k (by omega)) (funext fun k => hf 31 k (by omega)) (funext fun k => hf 32 k (by omega)), (M1.2.2.2.2.2.2.2.1.2 i hi z).2⟩⟩, mWa_of M1.2.2.2.2.2.2.2.2.1 (hf 0 66 (by omega)) (funext fun k => hf 36 k (by omega)) (funext fun k => hf 37 k (by omega)) (funext fun k => hf 38 k (by omega)) (funext fun k => hf 39 k (by omega)), ⟨mRow_fr M1.2.2.2.2.2.2.2.2.2.1.1 (hf 0 33 (by omega)) rfl, M1.2.2.2.2.2.2.2.2.2.1.2⟩, (hf 0 35 (by omega)).trans M1.2.2.2.2.2.2.2.2.2.2⟩
        exact ⟨rfl, ⟨q, rfl⟩, ⟨g, c, _, nr, rl, _, nf, fo, en, _, _, kp, kc, wa, ro, t, by omega, M2, wC_hi C1 (fun o z => funext fun k => hf o k (by omega)) rfl⟩⟩
      · obtain ⟨r, e1, e2⟩ := z ru' e (fun r e => by have := hr r e; have := hR.1; omega)
        have := hr r e1
        omega
    rw [← e10, hI1] at fin
    exact fin
  refine zin0 rfl rfl rfl (b265_0 ?_)
  have h8 := hR.1
  rcases pk_ix x (n := nr) (by omega) with c0 | c0 | ⟨r, hr, rfl⟩
  · refine And.intro (fun z => no (fun ru' e hr => ?_) _) (fun z => ?_)
    · cases ru' with
      | none => exact absurd z (by rw [e]; decide)
      | some r => exact absurd c0 (by rw [e]; exact nI_pos (hr r rfl))
    · have e := x_neg c0 z
      subst e
      show (-1 < I 40 9 → _) ∧ (¬ -1 < I 40 9 → _)
      rw [hR.2.1]
      exact And.intro (fun _ => yes none rfl (fun r e => by cases e) _) (fun w => absurd (Int32.lt_of_lt_of_le (show (-1 : Int32) < 0 by decide) (nI_pos' (by omega))) w)
  · refine And.intro (fun z => no (fun ru' e hr => ?_) _) (fun _ => ?_)
    · exact absurd (Int32.lt_of_le_of_lt (Int32.le_trans (nI_pos' (by omega)) c0) z) (by decide)
    · show (x < I 40 9 → _) ∧ (¬ x < I 40 9 → _)
      rw [hR.2.1]
      refine And.intro (fun w => absurd (Int32.lt_of_le_of_lt c0 w) (fun z => Int32.lt_irrefl z)) (fun _ => no (fun ru' e hr => ?_) _)
      cases ru' with
      | none =>
        rw [e] at c0
        exact absurd (Int32.le_trans (nI_pos' (n := nr) (by omega)) c0) (by decide)
      | some r =>
        rw [e] at c0
        exact ⟨r, rfl, (nI_leI (by omega) (hr r rfl)).mp c0⟩
  · refine And.intro (fun z => absurd (Int32.lt_of_le_of_lt (nI_pos' (by omega)) z) (by decide)) (fun _ => ?_)
    show (nI r < I 40 9 → _) ∧ (¬ nI r < I 40 9 → _)
    rw [hR.2.1]
    exact And.intro (fun _ => yes (some r) rfl (fun r' e => by injection e with e; omega) _) (fun w => absurd ((nI_ltI (by omega) (by omega)).mpr hr) w)
end
