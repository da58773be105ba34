-- ===== calls on both: watch, fits, part =====
theorem xB {x : Int32} {m : Nat} (hm : m < 2 ^ 20) {A B : Prop} (no : (∀ k, x = nI k → k ≤ m → False) → A) (yes : ∀ k, x = nI k → k ≤ m → B) : (x < 0 → A) ∧ (¬ x < 0 → (nI m < x → A) ∧ (¬ nI m < x → B)) := by
  rcases pk_ix x (n := m + 1) (by omega) with c0 | c0 | ⟨k, hk, rfl⟩
  · exact ⟨fun _ => no (fun k e hk => absurd c0 (by rw [e]; exact nI_pos (by omega))), fun z => absurd c0 z⟩
  · have n0 : A := no (fun k e hk => by
      rw [e] at c0
      have := (nI_leI (by omega) (by omega)).mp c0
      omega)
    refine ⟨fun _ => n0, fun _ => ⟨fun _ => n0, fun z => absurd (Int32.lt_of_lt_of_le ((nI_ltI (a := m) (b := m + 1) (by omega) (by omega)).mpr (Nat.lt_succ_self m)) c0) z⟩⟩
  · exact ⟨fun z => absurd z (nI_pos (by omega)), fun _ => ⟨fun z => absurd ((nI_ltI (by omega) (by omega)).mp z) (by omega), fun _ => yes k rfl (by omega)⟩⟩
theorem xB2 {x : Int32} {m : Nat} (hm : m < 2 ^ 20) {A B : Prop} (no : (∀ k, x = nI k → k ≤ m → False) → A) (yes : ∀ k, x = nI k → k ≤ m → B) : (x < 0 → A) ∧ (¬ x < 0 → (x ≤ nI m → B) ∧ (¬ x ≤ nI m → A)) := by
  obtain ⟨a, b⟩ := xB hm no yes
  exact ⟨a, fun z => ⟨fun w => (b z).2 (Int32.not_lt.mpr w), fun w => (b z).1 (Int32.not_le.mp w)⟩⟩
theorem tWa_no {o k : Nat} (h : ¬ (o = 36 ∨ o = 37 ∨ o = 38 ∨ o = 39 ∨ (o = 0 ∧ (k = 66 ∨ k = 34)))) : tWa o k = false := by
  cases e : tWa o k with
  | false => rfl
  | true =>
    unfold tWa at e
    simp only [Bool.or_eq_true, Bool.and_eq_true, Nat.beq_eq] at e
    omega
section
variable {G : zG} {n : Nat} {I : zI} {L : zL} {R : zR} {q : zq} {post : zPo} {g : zg} {c : sC} {fr : Nat → Nat} {nr : Nat} {rl : zrl} {ru : Option Nat} {nf : Nat} {fo : Nat → zfo} {en : Nat → Int32} {tx : Nat → Nat} {tn : Nat} {kp : Nat → Bool} {kc : Nat → sC} {wa : List zwt} {ro : List Int64} {t : Nat}
theorem w_watch {x y z u : Int32} (h : wB g c fr nr rl ru nf fo en tx tn kp kc wa ro t I L) : zC G (n + 300) 290 [.ref 40, .int x, .int y, .int z, .int u] I L (zR1 q) (wPo G (n + 300) 118 [.ref 0, .int x, .int y, .int z, .int u] t) := by
  obtain ⟨hM, hC⟩ := h
  have hW := hC.2.2.2.2.2.2.2.2.2.1
  have n12 := hW.2.1
  have no : (∀ wt, xWatch x y z u wt → wa.length = 12) → ∀ v5, zQ G 290 (n + 299) (wPo G (n + 300) 118 [.ref 0, .int x, .int y, .int z, .int u] t) 67 [some (.ref 40), some (.int x), some (.int y), some (.int z), some (.int u), v5] [] I L (zR1 q) := fun w v5 => b290_67 ⟨⟨_, rfl⟩, q, rfl, c_watch hM.2.2.2.2.2.2.2.2.1 (fun wt hw hl => by have := w wt hw; omega) (fun _ => ⟨rfl, ⟨q, rfl⟩, wE_34 hM hC (by omega)⟩)⟩
  have e5 : (4 : Int32) * I 40 18 = nI (4 * wa.length) := by
    rw [hW.1]
    exact pk_mul 4 _
  have e53 : (4 : Int32) * I 40 18 + 3 = nI (4 * wa.length + 3) := by
    rw [e5]
    exact nI_add _ 3
  refine zin0 rfl rfl rfl (b290_0 ?_)
  refine And.intro (fun w => absurd w (by rw [e5]; exact nI_pos (by omega))) (fun _ => pk_le 48 (4 * wa.length + 3) (fun w => no (fun _ _ => by omega) _) (fun wlen => xB (m := 2) (by decide) (fun w => no (fun wt hw => (w wt.1 hw.1 hw.2.2.2.2.1).elim) _) (fun a ea ha => xB (m := 9) (by decide) (fun w => no (fun wt hw => (w wt.2.1 hw.2.1 hw.2.2.2.2.2.1).elim) _) (fun b eb hb => xB (m := 99) (by decide) (fun w => no (fun wt hw => (w wt.2.2.1 hw.2.2.1 hw.2.2.2.2.2.2.1).elim) _) (fun d ed hd => xB2 (m := 999) (by decide) (fun w => no (fun wt hw => (w wt.2.2.2 hw.2.2.2.1 hw.2.2.2.2.2.2.2).elim) _) (fun e ee he => b290_69 ?_))))) rfl e53 (by omega) (by omega))
  subst ea eb ed ee
  have hlt : wa.length < 12 := by omega
  have i0 : vp_in ((4 : Int32) * I 40 18) 48 := by rw [e5]; exact vp_in_nI (by omega) (by decide)
  have e51 : (4 : Int32) * I 40 18 + 1 = nI (4 * wa.length + 1) := by rw [e5]; exact nI_add _ 1
  have e52 : (4 : Int32) * I 40 18 + 2 = nI (4 * wa.length + 2) := by rw [e5]; exact nI_add _ 2
  have i1 : vp_in ((4 : Int32) * I 40 18 + 1) 48 := by rw [e51]; exact vp_in_nI (by omega) (by decide)
  have i2 : vp_in ((4 : Int32) * I 40 18 + 2) 48 := by rw [e52]; exact vp_in_nI (by omega) (by decide)
  have i3 : vp_in ((4 : Int32) * I 40 18 + 3) 48 := by rw [e53]; exact vp_in_nI (by omega) (by decide)
  refine And.intro i0 (And.intro i1 (And.intro i2 (And.intro i3 (And.intro rfl ?_))))
  rw [e51, e52, e53, e5, nI_clamp (by omega), nI_clamp (by omega), nI_clamp (by omega), nI_clamp (by omega)]
  obtain ⟨J, hJ⟩ : ∃ J : zI, J = zup (zup (zup (zup I 95 (4 * wa.length) (nI a)) 95 (4 * wa.length + 1) (nI b)) 95 (4 * wa.length + 2) (nI d)) 95 (4 * wa.length + 3) (nI e) := ⟨_, rfl⟩
  rw [← hJ]
  have j95 : ∀ k, k < 4 * wa.length → J 95 k = I 95 k := fun k hk => by rw [hJ, zup_k (by omega), zup_k (by omega), zup_k (by omega), zup_k (by omega)]
  have jo : ∀ o, o ≠ 95 → J o = I o := fun o w => by rw [hJ, zup_ne w, zup_ne w, zup_ne w, zup_ne w]
  show wPo G (n + 300) 118 _ t (some (.int (zup J 40 18 (J 40 18 + 1) 40 18))) (zup J 40 18 (J 40 18 + 1)) L (zR1 q)
  rw [jo 40 (by decide), hW.1, nI_1, zup_self]
  obtain ⟨I2, hI2⟩ : ∃ I2 : zI, I2 = zup J 40 18 (nI (wa.length + 1)) := ⟨_, rfl⟩
  rw [← hI2]
  have ho : ∀ o, ¬ (o = 40 ∨ o = 95) → I2 o = I o := fun o w => by rw [hI2, zup_ne (by omega), jo o (by omega)]
  have ho4 : ∀ k, k ≠ 18 → I2 40 k = I 40 k := fun k w => by rw [hI2, zup_k w, jo 40 (by decide)]
  have r95 : I2 95 = J 95 := by rw [hI2, zup_ne (by decide)]
  have wok : waOk (a, b, d, e) := ⟨ha, hb, hd, he⟩
  have kw : kWa (wa ++ [(a, b, d, e)]) I2 := by
    refine ⟨by rw [hI2, zup_self, snoc_len], by rw [snoc_len]; omega, fun j wt hj => ?_⟩
    rw [r95]
    rcases snoc_get hj with ⟨e1, e2⟩ | ⟨e1, e2⟩
    · subst e1 e2
      refine ⟨wok, ?_, ?_, ?_, ?_⟩
      · rw [hJ, zup_k (by omega), zup_k (by omega), zup_k (by omega), zup_self]
      · rw [hJ, zup_k (by omega), zup_k (by omega), zup_self]
      · rw [hJ, zup_k (by omega), zup_self]
      · rw [hJ, zup_self]
    · rw [j95 _ (by omega), j95 _ (by omega), j95 _ (by omega), j95 _ (by omega)]
      exact hW.2.2 j wt e2
  have C2 : wC g c fr nr rl ru nf fo en tx tn kp kc ((wa ++ [(a, b, d, e)])) ro t I2 L := ⟨kZ_of hC.1 (fun o z1 z2 => ho o (by omega)), ⟨kD_of hC.2.1.1 (ho 43 (by omega)), kTx_of hC.2.1.2 (ho 41 (by omega)) (ho 42 (by omega))⟩, kC_of hC.2.2.1 (ho 63 (by omega)) (ho 64 (by omega)) (fun k _ => by rw [ho 62 (by omega)]), kKp_of hC.2.2.2.1 (fun o z1 z2 => ho o (by omega)), kFr_of hC.2.2.2.2.1 (ho 69 (by omega)), kRs_of hC.2.2.2.2.2.1 (ho4 9 (by decide)) (ho4 10 (by decide)) (fun o z1 z2 => ho o (by omega)), kFs_of hC.2.2.2.2.2.2.1 (ho4 12 (by decide)) (fun o z => ho o (by omega)), (fun k hk => by rw [ho 77 (by omega), ho 84 (by omega)]; exact hC.2.2.2.2.2.2.2.1 k hk), kEn_of hC.2.2.2.2.2.2.2.2.1 (ho 94 (by omega)), kw, kRow_of hC.2.2.2.2.2.2.2.2.2.2.1 (ho 96 (by omega)) rfl, kMk_of hC.2.2.2.2.2.2.2.2.2.2.2 (ho 89 (by omega)) (ho 91 (by omega)) (ho 92 (by omega))⟩
  have M2 := wM_lo hM (I' := I2) (L' := L) (fun o z => ho o (by omega)) (fun _ _ => rfl)
  refine ⟨⟨_, rfl⟩, q, rfl, c_watch M2.2.2.2.2.2.2.2.2.1 (fun wt hw _ I3 m3 _ f3 => ?_) (fun w => absurd (w (a, b, d, e) ⟨rfl, rfl, rfl, rfl, wok⟩) (by omega))⟩
  obtain ⟨w1, w2, w3, w4⟩ := wt
  obtain ⟨x1, x2, x3, x4, x5⟩ := hw
  obtain ⟨y1, y2, y3, y4⟩ := x5
  have y1' : w1 ≤ 2 := y1
  have y2' : w2 ≤ 9 := y2
  have y3' : w3 ≤ 99 := y3
  have y4' : w4 ≤ 999 := y4
  have f1 : a = w1 := nI_inj (by omega) (by omega) x1
  have f2 : b = w2 := nI_inj (by omega) (by omega) x2
  have g3 : d = w3 := nI_inj (by omega) (by omega) x3
  have f4 : e = w4 := nI_inj (by omega) (by omega) x4
  subst f1 f2 g3 f4
  have hf : ∀ o k, ¬ (o = 36 ∨ o = 37 ∨ o = 38 ∨ o = 39 ∨ (o = 0 ∧ (k = 66 ∨ k = 34))) → I3 o k = I2 o k := fun o k z => f3 o k (tWa_no z)
  have M3 : wM g c fr nr rl ru nf fo en tx tn kp kc ((wa ++ [(a, b, d, e)])) ro I3 L := ⟨⟨⟨M2.1.1.1, fun k z => (hf 0 k (by omega)).trans (M2.1.1.2 k z)⟩, mPos_of M2.1.2 (funext fun k => hf 1 k (by omega)) (funext fun k => hf 2 k (by omega)) (funext fun k => hf 3 k (by omega))⟩, ⟨mC_of M2.2.1.1 (funext fun k => hf 5 k (by omega)) (funext fun k => hf 4 k (by omega)) (hf 0 14 (by omega)) (hf 0 15 (by omega)) (hf 0 16 (by omega)), M2.2.1.2⟩, (fun s hs => ⟨(hf 6 s (by omega)).trans (M2.2.2.1 s hs).1, (M2.2.2.1 s hs).2⟩), mRl_of M2.2.2.2.1 (hf 0 18 (by omega)) (hf 0 22 (by omega)) (funext fun k => hf 7 k (by omega)) (funext fun k => hf 8 k (by omega)) (funext fun k => hf 9 k (by omega)), mFo_fr M2.2.2.2.2.1 (hf 0 23 (by omega)) (funext fun k => hf 10 k (by omega)) (funext fun k => hf 11 k (by omega)) (funext fun k => hf 12 k (by omega)) (funext fun k => hf 14 k (by omega)) rfl, (fun k hk => (hf 15 k (by omega)).trans (M2.2.2.2.2.2.1 k hk)), mTx_fr M2.2.2.2.2.2.2.1 (hf 0 31 (by omega)) (funext fun k => hf 16 k (by omega)), ⟨fun i hi => (hf 29 i (by omega)).trans (M2.2.2.2.2.2.2.2.1.1 i hi), fun i hi z => ⟨mK_of (M2.2.2.2.2.2.2.2.1.2 i hi z).1 (funext fun k => hf 30 k (by omega)) (funext fun k => hf 31 k (by omega)) (funext fun k => hf 32 k (by omega)), (M2.2.2.2.2.2.2.2.1.2 i hi z).2⟩⟩, m3, ⟨mRow_fr M2.2.2.2.2.2.2.2.2.2.1.1 (hf 0 33 (by omega)) rfl, M2.2.2.2.2.2.2.2.2.2.1.2⟩, (hf 0 35 (by omega)).trans M2.2.2.2.2.2.2.2.2.2.2⟩
  exact ⟨rfl, ⟨q, rfl⟩, ⟨g, c, fr, nr, rl, ru, nf, fo, en, tx, _, kp, kc, _, ro, t, by omega, M3, wC_hi C2 (fun o z => funext fun k => hf o k (by omega)) rfl⟩⟩
theorem sPd_bd {rl : zrl} {r e i b : Nat} (h : rsOk (rl.1 r, rl.2.1 r, rl.2.2 r)) (he : e < 3) (hi : i < 20) (hb : b ≤ 1000) : sPd rl r e i b ≤ 3000 := by
  have := sAm_bd h he hi
  have e1 : sAmt rl r e i = sAm (rl.1 r, rl.2.1 r, rl.2.2 r) e i := rfl
  unfold sPd
  rw [e1]
  omega
theorem k_leavesR {r e i b : Nat} {ei ii bi : Int32} (h1 : ei = nI e) (h2 : ii = nI i) (h3 : bi = nI b) (hR : kRs nr rl ru I) (hr : r < nr) (he : e < 3) (hi : i < 20) (hb : b ≤ 1000) (h : post (some (.int (nI (sPd rl r e i b)))) I L (zR1 q)) : zC G (n + 2) 211 [.ref (107 + 3 * r), .int ei, .int ii, .int bi] I L (zR1 q) post := by
  subst h1 h2 h3
  exact k_leaves (kRo_r (by have := hR.1; omega)) (hR.2.2.2.2 r hr).1 (hR.2.2.2.2 r hr).2 he hi hb h
theorem k_fitsAll {r : Nat} (hR : kRs nr rl ru I) (hW : kWa wa I) (hr : r < nr) (h : post (some (.int (zbo (sFt rl wa r)))) I L (zR1 q)) : zC G (n + 3) 304 [.ref 40, .ref (107 + 3 * r)] I L (zR1 q) post := by
  have n8 := hR.1
  have n12 := hW.2.1
  have hok := (hR.2.2.2.2 r hr).2
  have key : ∀ (j i : Nat) (v3 : Option Value), i + j = wa.length → (∀ k wt, k < i → wa[k]? = some wt → sPd rl r wt.1 wt.2.1 wt.2.2.1 = wt.2.2.2) → zQ G 304 (n + 2) post 2 [some (.ref 40), some (.ref (107 + 3 * r)), some (.int (nI i)), v3] [] I L (zR1 q) := by
    intro j
    induction j with
    | zero =>
      intro i v3 hi hall
      have ft : sFt rl wa r = true := List.all_eq_true.mpr (fun wt hw => by
        obtain ⟨k, hk, e⟩ := List.getElem_of_mem hw
        exact decide_eq_true (hall k wt (by omega) (by rw [List.getElem?_eq_getElem hk, e])))
      rw [ft] at h
      exact b304_2 (pk_le wa.length i (fun _ => b304_72 (And.intro rfl h)) (fun z => absurd z (by omega)) hW.1 rfl (by omega) (by omega))
    | succ j ih =>
      intro i v3 hi hall
      have hil : i < wa.length := by omega
      have ei : wa[i]? = some wa[i] := List.getElem?_eq_getElem hil
      obtain ⟨wok, s0, s1, s2, s3⟩ := hW.2.2 i _ ei
      obtain ⟨y1, y2, y3, y4⟩ := wok
      have m0 : (4 : Int32) * nI i = nI (4 * i) := pk_mul 4 i
      have m1 : (4 : Int32) * nI i + 1 = nI (4 * i + 1) := by rw [m0]; exact nI_add _ 1
      have m2 : (4 : Int32) * nI i + 2 = nI (4 * i + 2) := by rw [m0]; exact nI_add _ 2
      have m3 : (4 : Int32) * nI i + 3 = nI (4 * i + 3) := by rw [m0]; exact nI_add _ 3
      have v0 : vp_in ((4 : Int32) * nI i) 48 := by rw [m0]; exact vp_in_nI (by omega) (by decide)
      have v1 : vp_in ((4 : Int32) * nI i + 1) 48 := by rw [m1]; exact vp_in_nI (by omega) (by decide)
      have v2 : vp_in ((4 : Int32) * nI i + 2) 48 := by rw [m2]; exact vp_in_nI (by omega) (by decide)
      have v3' : vp_in ((4 : Int32) * nI i + 3) 48 := by rw [m3]; exact vp_in_nI (by omega) (by decide)
      have b0 : I 95 ((4 : Int32) * nI i).toNatClampNeg = nI wa[i].1 := by rw [m0, nI_clamp (by omega)]; exact s0
      have b1 : I 95 ((4 : Int32) * nI i + 1).toNatClampNeg = nI wa[i].2.1 := by rw [m1, nI_clamp (by omega)]; exact s1
      have b2 : I 95 ((4 : Int32) * nI i + 2).toNatClampNeg = nI wa[i].2.2.1 := by rw [m2, nI_clamp (by omega)]; exact s2
      have b3 : I 95 ((4 : Int32) * nI i + 3).toNatClampNeg = nI wa[i].2.2.2 := by rw [m3, nI_clamp (by omega)]; exact s3
      have bd := sPd_bd hok (e := wa[i].1) (i := wa[i].2.1) (b := wa[i].2.2.1) (by omega) (by omega) (by omega)
      have lv := fun post' hp => k_leavesR (G := G) (n := n) (I := I) (L := L) (q := q) (post := post') b0 b1 b2 hR hr (by omega) (by omega) (by omega) hp
      have nx : sPd rl r wa[i].1 wa[i].2.1 wa[i].2.2.1 = wa[i].2.2.2 → ∀ v3 : Option Value, zQ G 304 (n + 2) post 66 [some (.ref 40), some (.ref (107 + 3 * r)), some (.int (nI i)), v3] [] I L (zR1 q) := fun w v3 => by
        have qq := ih (i + 1) v3 (by omega) (fun k wt hk hkw => by
          by_cases d : k = i
          · subst d
            rw [ei] at hkw
            cases hkw
            exact w
          · exact hall k wt (by omega) hkw)
        rw [← nI_1] at qq
        exact b304_66 qq
      have bad : sPd rl r wa[i].1 wa[i].2.1 wa[i].2.2.1 ≠ wa[i].2.2.2 → post (some (.int 0)) I L (zR1 q) := fun w => by
        have ft : sFt rl wa r = false := by
          cases e : sFt rl wa r with
          | false => rfl
          | true => exact absurd (of_decide_eq_true (List.all_eq_true.mp e wa[i] (List.getElem_mem hil))) w
        rw [ft] at h
        exact h
      refine b304_2 (pk_le wa.length i (fun z => absurd z (by omega)) (fun _ => pk_le 48 (4 * i + 3) (fun z => absurd z (by omega)) (fun _ => And.intro v0 (And.intro v1 (And.intro v2 ?_))) rfl m3 (by omega) (by omega)) hW.1 rfl (by omega) (by omega))
      have fin : ∀ v3 : Option Value, (nI (sPd rl r wa[i].1 wa[i].2.1 wa[i].2.2.1) = I 95 ((4 : Int32) * nI i + 3).toNatClampNeg → zQ G 304 (n + 2) post 66 [some (.ref 40), some (.ref (107 + 3 * r)), some (.int (nI i)), v3] [] I L (zR1 q)) ∧ (¬ nI (sPd rl r wa[i].1 wa[i].2.1 wa[i].2.2.1) = I 95 ((4 : Int32) * nI i + 3).toNatClampNeg → post (some (.int 0)) I L (zR1 q)) := fun v3 => by
        rw [b3]
        exact pk_eq (sPd rl r wa[i].1 wa[i].2.1 wa[i].2.2.1) wa[i].2.2.2 (fun w => nx w v3) (fun w => bad w) rfl rfl (by omega) (by omega)
      have c8 : r = 0 ∨ r = 1 ∨ r = 2 ∨ r = 3 ∨ r = 4 ∨ r = 5 ∨ r = 6 ∨ r = 7 := by omega
      rcases c8 with rfl | rfl | rfl | rfl | rfl | rfl | rfl | rfl <;> exact lv _ (And.intro v3' (And.intro (fun w => (fin _).1 w) (fun w => And.intro rfl ((fin none).2 w))))
  exact zin0 rfl rfl rfl (b304_0 (key wa.length 0 none (by omega) (fun k wt hk => absurd hk (Nat.not_lt_zero _))))
theorem k_fits (hR : kRs nr rl ru I) (hW : kWa wa I) (h : post (some (.int (nI (sFB (sFt rl wa) nr)))) I L (zR1 q)) : zC G (n + 4) 291 [.ref 40] I L (zR1 q) post := by
  have n8 := hR.1
  have key : ∀ j i : Nat, i + j = nr → zQ G 291 (n + 3) post 4 [some (.ref 40), some (.int (nI (sFB (sFt rl wa) i))), some (.int (nI i))] [] I L (zR1 q) := by
    intro j
    induction j with
    | zero =>
      intro i hi
      have ei : i = nr := by omega
      subst ei
      exact b291_4x (pk_le i i (fun _ => b291_46 h) (fun z => absurd z (by omega)) hR.2.1 rfl (by omega) (by omega))
    | succ j ih =>
      intro i hi
      have hin : i < nr := by omega
      have e : zR1 q 70 (nI i).toNatClampNeg = some (107 + 3 * i) := by
        rw [nI_clamp (by omega)]
        exact zR_rule i (by omega)
      have lt := sFB_lt (sFt rl wa) i
      have qq := ih (i + 1) (by omega)
      rw [← nI_1] at qq
      refine b291_4x (pk_le nr i (fun z => absurd z (by omega)) (fun _ => pk_le 8 i (fun z => absurd z (by omega)) (fun _ => ?_) rfl rfl (by omega) (by omega)) hR.2.1 rfl (by omega) (by omega))
      show zck ("BoxesWithBeads$Rule" == zcn 8 && Nat.blt 8 zncl) (vp_in (nI i) 8 ∧ _)
      refine zck_t zs_rule (And.intro (vp_in_nI (by omega) (by decide)) ?_)
      rw [e]
      refine k_fitsAll hR hW hin (zbo_eq (fun d => b291_40 ?_) (fun d => b291_40 ?_))
      · rw [sFB, if_neg (by rw [d]; decide)] at qq
        exact qq
      · rw [sFB, if_pos d, ← zor8 i (by omega) _ lt, ← zshl1 (show i < 31 by omega)] at qq
        exact qq
  exact zin0 rfl rfl rfl (b291_0 (key nr 0 (by omega)))
theorem w_fits (h : wB g c fr nr rl ru nf fo en tx tn kp kc wa ro t I L) : zC G (n + 300) 291 [.ref 40] I L (zR1 q) (wPo G (n + 300) 121 [.ref 0] t) := by
  obtain ⟨hM, hC⟩ := h
  exact k_fits hC.2.2.2.2.2.1 hC.2.2.2.2.2.2.2.2.2.1 ⟨⟨_, rfl⟩, q, rfl, c_fits hM.2.2.2.1 hM.2.2.2.2.2.2.2.2.1 ⟨rfl, ⟨q, rfl⟩, wE_34 hM hC (by omega)⟩⟩
end
