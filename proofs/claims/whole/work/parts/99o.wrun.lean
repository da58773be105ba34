-- ===== calls on both: run, come =====
theorem iI_rest {a b c a' b' c' k : Int32} (h : a' + b' + c' = a + b + c + k) : k - (c' - c) - (b' - b) = a' - a := by
  have e : k = (a' - a) + ((c' - c) + (b' - b)) := by
    have e1 : a + b + c + k - (a + b + c) = k := by rw [Int32.add_comm (a + b + c) k, Int32.add_sub_cancel]
    rw [← e1, ← h]
    simp only [Int32.sub_eq_add_neg, Int32.neg_add]
    ac_rfl
  rw [Int32.sub_sub, e, Int32.add_sub_cancel]
theorem sEnc_sum {en : Nat → Int32} {how : Nat} (hh : how ≤ 3) : sEnc en how 0 + sEnc en how 1 + sEnc en how 2 = en 0 + en 1 + en 2 + 1 := by
  have c : how = 0 ∨ how = 1 ∨ how = 2 ∨ how = 3 := by omega
  unfold sEnc
  rcases c with rfl | rfl | rfl | rfl
  · show en 0 + 1 + en 1 + en 2 = _
    ac_rfl
  · show en 0 + (en 1 + 1) + en 2 = _
    ac_rfl
  · show en 0 + en 1 + (en 2 + 1) = _
    ac_rfl
  · show en 0 + 1 + en 1 + en 2 = _
    ac_rfl
theorem sRn_sum {g : zg} {fr : Nat → Nat} {rl : zrl} {ru : Option Nat} {F : zfo} {c : sC} {en : Nat → Int32} : ∀ n, (sRn g fr rl ru F n (c, en)).2 0 + (sRn g fr rl ru F n (c, en)).2 1 + (sRn g fr rl ru F n (c, en)).2 2 = en 0 + en 1 + en 2 + nI n
  | 0 => by
    show en 0 + en 1 + en 2 = en 0 + en 1 + en 2 + 0
    rw [Int32.add_zero]
  | n + 1 => by
    rw [sRn, ← nI_1, ← Int32.add_assoc, ← sRn_sum n]
    exact sEnc_sum sGm_how
theorem xOut_le {y : Int32} {m : Nat} (hm : m < 2 ^ 30) (h : xOut y (m + 1)) (h0 : ¬ y < 0) : ¬ y ≤ nI m := fun w => by
  rcases h with c | c
  · exact h0 c
  · exact absurd ((nI_leI (by omega) (by omega)).mp (Int32.le_trans c w)) (by omega)
section
variable {G : zG} {n : Nat} {I : zI} {L : zL} {q : zq} {post : zPo} {g : zg} {c : sC} {fr : Nat → Nat} {nr : Nat} {rl : zrl} {ru : Option Nat} {nf : Nat} {fo : Nat → zfo} {en : Nat → Int32} {tx : Nat → Nat} {tn : Nat} {kp : Nat → Bool} {kc : Nat → sC} {wa : List zwt} {ro : List Int64} {t : Nat}
theorem w_run {x y : Int32} (h : wB g c fr nr rl ru nf fo en tx tn kp kc wa ro t I L) : zC G (n + 300) 278 [.ref 40, .int x, .int y] I L (zR1 q) (wPo G (n + 300) 92 [.ref 0, .int x, .int y] t) := by
  obtain ⟨hM, hC⟩ := h
  have hFs := hC.2.2.2.2.2.2.1
  have hMf := hM.2.2.2.2.1
  refine zin0 rfl rfl rfl (b278_0 (w_foeAt hFs (fun f e hf => ?_) (fun z => b278_21 ⟨⟨_, rfl⟩, q, rfl, c_run0 hMf.1 hMf.2.1 z ⟨rfl, ⟨q, rfl⟩, wE_34 hM hC (by omega)⟩⟩)))
  subst e
  have no : xOut y 201 → ∀ v3 v4 v5 v6 v7, zQ G 278 (n + 299) (wPo G (n + 300) 92 [.ref 0, .int (nI f), .int y] t) 21 [some (.ref 40), some (.int (nI f)), some (.int y), v3, v4, v5, v6, v7] [] I L (zR1 q) := fun z v3 v4 v5 v6 v7 => b278_21 ⟨⟨_, rfl⟩, q, rfl, c_run (gW_M hM hf) hf hMf.1 hMf.2.1 (hMf.2.2 f hf).1 hM.2.2.2.2.2.1 (fun k e hk => absurd z (xOut_no (by omega) (by decide) e)) (fun _ => ⟨rfl, ⟨q, rfl⟩, wE_34 hM hC (by omega)⟩)⟩
  rcases pk_ix y (n := 201) (by decide) with c0 | c0 | ⟨k, hk, rfl⟩
  · exact And.intro (fun _ => no (.inl c0) _ _ _ _ _) (fun z => absurd c0 z)
  · exact And.intro (fun z => no (.inl z) _ _ _ _ _) (fun z => And.intro (fun w => absurd w (xOut_le (m := 200) (by decide) (.inr c0) z)) (fun _ => no (.inr c0) _ _ _ _ _))
  refine And.intro (fun z => absurd z (nI_pos (by omega))) (fun _ => pk_le k 200 (fun _ => b278_23 ?_) (fun z => absurd z (by omega)) rfl rfl (by omega) (by omega))
  refine w_lay hC (fun I1 C1 hL ho => ?_)
  have M1 := wM_lo hM (fun o z => ho o (by omega)) (fun _ _ => rfl)
  have hg := hL.1.1
  have hin := M1.2.1.2
  have hE := C1.2.2.2.2.2.2.2.2.1
  have v2 : vp_in (2 : Int32) 4 := vp_in_nI (n := 2) (N := 4) (by decide) (by decide)
  have v1 : vp_in (1 : Int32) 4 := vp_in_nI (n := 1) (N := 4) (by decide) (by decide)
  have v3 : vp_in (3 : Int32) 4 := vp_in_nI (n := 3) (N := 4) (by decide) (by decide)
  have key : ∀ (j i : Nat) (J : zI) (K : zL), i + j = k → wC g ((sRn g fr rl ru (fo f) i (c, en)).1) fr nr rl ru nf fo ((sRn g fr rl ru (fo f) i (c, en)).2) tx tn kp kc wa ro t J K → (∀ o, ¬ wPl o → J o = I1 o) → lPk L K → zQ G 278 (n + 299) (wPo G (n + 300) 92 [.ref 0, .int (nI f), .int (nI k)] t) 57 [some (.ref 40), some (.int (nI f)), some (.int (nI k)), some (.ref (131 + 5 * f)), some (.int (en 2)), some (.int (en 1)), some (.int (en 3)), some (.int (nI i))] [] J K (zR1 q) := by
    intro j
    induction j with
    | zero =>
      intro i J K hi CJ jo kl
      have ei : i = k := by omega
      subst ei
      have hEJ := CJ.2.2.2.2.2.2.2.2.1
      have sum := sRn_sum (g := g) (fr := fr) (rl := rl) (ru := ru) (F := fo f) (c := c) (en := en) i
      have er := iI_rest sum
      refine b278_57 (pk_le i i (fun _ => b278_75 (And.intro v2 (And.intro v1 ?_))) (fun z => absurd z (by omega)) rfl rfl (by omega) (by omega))
      show zC G (n + 299) 202 [.ref 96] J K (zR1 q) _
      have a2 : J 94 2 - en 2 = (sRn g fr rl ru (fo f) i (c, en)).2 2 - en 2 := by rw [hEJ.2.2.1]
      have a1 : J 94 1 - en 1 = (sRn g fr rl ru (fo f) i (c, en)).2 1 - en 1 := by rw [hEJ.2.1]
      have a3 : J 94 3 - en 3 = (sRn g fr rl ru (fo f) i (c, en)).2 3 - en 3 := by rw [hEJ.2.2.2]
      have a0 : nI i - (J 94 2 - en 2) - (J 94 1 - en 1) = (sRn g fr rl ru (fo f) i (c, en)).2 0 - en 0 := by rw [a2, a1]; exact er
      have fin : ∀ (J3 : zI) (K3 : zL), kRow [((sRn g fr rl ru (fo f) i (c, en)).2 1 - en 1).toInt64, ((sRn g fr rl ru (fo f) i (c, en)).2 0 - en 0).toInt64, ((sRn g fr rl ru (fo f) i (c, en)).2 3 - en 3).toInt64] J3 K3 → (∀ o, o ≠ 96 → J3 o = J o) → (∀ o, o ≠ 97 → K3 o = K o) → wPo G (n + 300) 92 [.ref 0, .int (nI f), .int (nI i)] t (some (.int ((sRn g fr rl ru (fo f) i (c, en)).2 2 - en 2))) J3 K3 (zR1 q) := fun J3 K3 r j3 k3 => by
        have C3 := wC_ro CJ j3 r
        have M3 := wM_lo M1 (I' := J3) (L' := K3) (fun o z => (j3 o (by omega)).trans (jo o (by unfold wPl; omega))) (fun o z => (k3 o (by omega)).trans (funext fun k => kl o k (by omega)))
        have hM3 := M3.2.2.2.2.1
        exact ⟨⟨_, rfl⟩, q, rfl, c_run (gW_M M3 hf) hf hM3.1 hM3.2.1 (hM3.2.2 f hf).1 M3.2.2.2.2.2.1 (fun k2 e2 hk2 I4 L4 w4 e4 m4 _ f4 l4 => by
          have ek : k2 = i := (nI_inj (by omega) (by omega) e2).symm
          subst ek
          exact ⟨rfl, ⟨q, rfl⟩, ⟨g, _, fr, nr, rl, ru, nf, fo, _, tx, tn, kp, kc, wa, _, t, by omega, wM_Q M3 w4 f4 (l4 13 (by decide)) e4 m4 C3.2.2.2.2.2.2.2.2.2.2.1.2.1, wC_hi C3 (hi_of (fun _ _ => rfl) f4) (l4 97 (by decide))⟩⟩) (fun z => absurd z (xOut_no (by omega) (by decide) rfl))⟩
      rw [← a1, ← a0, ← a3, ← a2] at fin
      exact k_begin (fun r0 => k_add r0 (by show 0 < 32; decide) (fun r1 => k_add r1 (by show 1 < 32; decide) (fun r2 => And.intro v3 (k_add r2 (by show 2 < 32; decide) (fun r3 => fin _ _ r3 (fun o z => by rw [zup_ne z, zup_ne z, zup_ne z, zup_ne z]) (fun o z => by rw [zup_ne z, zup_ne z, zup_ne z]))))))
    | succ j ih =>
      intro i J K hi CJ jo kl
      have hinJ := sRn_in (g := g) (fr := fr) (rl := rl) (ru := ru) (F := fo f) hg (s := (c, en)) hin i
      refine b278_57 (pk_le k i (fun z => absurd z (by omega)) (fun _ => ?_) rfl rfl (by omega) (by omega))
      refine w_playOne CJ (kLay_of hL (fun o z1 z2 => jo o (by unfold wPl; omega))) hinJ hf (fun I2 L2 kc2 _ en2 o2 l2 => And.intro rfl ?_)
      have qq := ih (i + 1) I2 L2 (by omega) (wC_pl CJ kc2 en2 o2 l2) (fun o z => (o2 o z).trans (jo o z)) (lPk_tr kl l2)
      rw [← nI_1] at qq
      exact qq
  have qq := key k 0 I1 L (by omega) C1 (fun _ _ => rfl) (lPk_0 L)
  rw [← hE.2.2.1, ← hE.2.1, ← hE.2.2.2] at qq
  exact And.intro v2 (And.intro v1 (And.intro v3 qq))
theorem w_come {x y : Int32} (h : wB g c fr nr rl ru nf fo en tx tn kp kc wa ro t I L) (ht : t < 2 ^ 29) : zC G (n + 300) 279 [.ref 40, .int x, .int y] I L (zR1 q) (wPo G (n + 300) 99 [.ref 0, .int x, .int y] t) := by
  obtain ⟨hM, hC⟩ := h
  have hFs := hC.2.2.2.2.2.2.1
  have hMf := hM.2.2.2.2.1
  refine zin0 rfl rfl rfl (b279_0 (w_foeAt hFs (fun f e hf => ?_) (fun z => b279_20 ⟨⟨_, rfl⟩, q, rfl, c_come0 hMf.1 hMf.2.1 z ⟨rfl, ⟨q, rfl⟩, wE_34 hM hC (by omega)⟩⟩)))
  subst e
  have no : xOut y 101 → ∀ v3 v4, zQ G 279 (n + 299) (wPo G (n + 300) 99 [.ref 0, .int (nI f), .int y] t) 20 [some (.ref 40), some (.int (nI f)), some (.int y), v3, v4] [] I L (zR1 q) := fun z v3 v4 => b279_20 ⟨⟨_, rfl⟩, q, rfl, c_come3 (gW_M hM hf) hf hMf.1 hMf.2.1 (hMf.2.2 f hf).1 hM.2.2.2.2.2.1 (fun k e hk => absurd z (xOut_no (by omega) (by decide) e)) (fun _ => ⟨rfl, ⟨q, rfl⟩, wE_34 hM hC (by omega)⟩)⟩
  rcases pk_ix y (n := 101) (by decide) with c0 | c0 | ⟨k, hk, rfl⟩
  · exact And.intro (fun _ => no (.inl c0) _ _) (fun z => absurd c0 z)
  · exact And.intro (fun z => no (.inl z) _ _) (fun z => And.intro (fun w => absurd w (xOut_le (m := 100) (by decide) (.inr c0) z)) (fun _ => no (.inr c0) _ _))
  refine And.intro (fun z => absurd z (nI_pos (by omega))) (fun _ => pk_le k 100 (fun _ => b279_22 ?_) (fun z => absurd z (by omega)) rfl rfl (by omega) (by omega))
  refine w_lay hC (fun I1 C1 hL ho => ?_)
  have M1 := wM_lo hM (fun o z => ho o (by omega)) (fun _ _ => rfl)
  have hg := hL.1.1
  have hin := M1.2.1.2
  have hFb := kFb_f (f := f) (by have := hFs.1; omega)
  have fin : ∀ (v : Int32) (s : zst) (t' : Nat) (J : zI) (K : zL) (q' : zq), sCm g fr rl ru (fo f) k 0 (c, en) = (v, s) → t' ≤ t + 101 → wC g s.1 fr nr rl ru nf fo s.2 tx tn kp kc wa ro t' J K → (∀ o, o < 40 → J o = I1 o) → (∀ o, o < 40 → K o = L o) → wPo G (n + 300) 99 [.ref 0, .int (nI f), .int (nI k)] t (some (.int v)) J K (zR1 q') := fun v s t' J K q' e ht' CJ jo ko => by
    have M3 := wM_lo M1 (I' := J) (L' := K) jo ko
    have hM3 := M3.2.2.2.2.1
    refine ⟨⟨_, rfl⟩, q', rfl, c_come3 (gW_M M3 hf) hf hM3.1 hM3.2.1 (hM3.2.2 f hf).1 M3.2.2.2.2.2.1 (fun k2 e2 hk2 I4 L4 w4 e4 _ h33 f4 l4 => ?_) (fun z => absurd z (xOut_no (by omega) (by decide) rfl))⟩
    have ek : k2 = k := (nI_inj (by omega) (by omega) e2).symm
    subst ek
    rw [e] at w4 e4 ⊢
    refine ⟨rfl, ⟨q', rfl⟩, ⟨g, s.1, fr, nr, rl, ru, nf, fo, s.2, tx, tn, kp, kc, wa, ro, t', ht', wM_Q M3 w4 f4 (l4 13 (by decide) (by decide) (by decide)) e4 ?_ M3.2.2.2.2.2.2.2.2.2.1.2, wC_hi CJ (hi_of (fun _ _ => rfl) f4) (l4 97 (by decide) (by decide) (by decide))⟩⟩
    unfold mRow
    rw [h33, l4 17 (by decide) (by decide) (by decide)]
    exact M3.2.2.2.2.2.2.2.2.2.1.1
  have key : ∀ (j i : Nat) (s : zst) (J : zI) (K : zL) (q' : zq), i + j = k → sCm g fr rl ru (fo f) j i s = sCm g fr rl ru (fo f) k 0 (c, en) → cIn g s.1 → wC g s.1 fr nr rl ru nf fo s.2 tx tn kp kc wa ro (t + i) J K → (∀ o, ¬ (wPl o ∨ o = 89 ∨ o = 90 ∨ o = 91) → J o = I1 o) → (∀ o, o < 40 → K o = L o) → zQ G 279 (n + 299) (wPo G (n + 300) 99 [.ref 0, .int (nI f), .int (nI k)] t) 32 [some (.ref 40), some (.int (nI f)), some (.int (nI k)), some (.ref (131 + 5 * f)), some (.int (nI i))] [] J K (zR1 q') := by
    intro j
    induction j with
    | zero =>
      intro i s J K q' hi hs his CJ jo ko
      have ei : i = k := by omega
      subst ei
      have hLJ : kLay g J := kLay_of hL (fun o z1 z2 => jo o (by unfold wPl; omega))
      have hFJ := CJ.2.2.2.2.2.2.1
      refine b279_32 (pk_lt i i (fun z => absurd z (by omega)) (fun _ => ?_) rfl rfl (by omega) (by omega))
      refine k_look (Or.inl ⟨rfl, rfl, rfl⟩) hFb (hFJ.2.2 f hf).1 his hLJ CJ.2.2.2.2.1 CJ.2.2.1 (hFJ.2.2 f hf).2 CJ.2.2.2.2.2.2.2.2.2.2.2 (by omega) (fun I2 L2 od k2 o2 l2 => ?_)
      have C2 := wC_lk CJ k2 o2 l2
      have low : ∀ o, o < 40 → I2 o = I1 o := fun o z => (o2 o (by omega) (by omega) (by omega)).trans (jo o (by unfold wPl; omega))
      have lowL : ∀ o, o < 40 → L2 o = L o := fun o z => (l2 o (by omega)).trans (ko o z)
      have le0 := sOd_le g fr s.1 (fo f) (sFirst g) 0
      refine k_of (e := 0) rfl C2.1.1 (by decide) ?_
      rw [sCm] at hs
      refine pk_ne (sOd g fr s.1 (fo f) (sFirst g) 0) 0 (fun z => b279_68 (pk_le i i (fun _ => b279_80 (b279_32 (pk_lt i (i + 1) (fun _ => b279_86 (fin (-2) s (t + i + 1) I2 L2 _ (by rw [← hs, if_neg z]) (by omega) C2 low lowL)) (fun z2 => absurd z2 (by omega)) rfl (nI_1 i) (by omega) (by omega)))) (fun z2 => absurd z2 (by omega)) rfl rfl (by omega) (by omega))) (fun z => fin (nI i) s (t + i + 1) I2 L2 _ (by rw [← hs, if_pos z]) (by omega) C2 low lowL) (od 0 (by decide)) rfl (by omega) (by omega)
    | succ j ih =>
      intro i s J K q' hi hs his CJ jo ko
      have hLJ : kLay g J := kLay_of hL (fun o z1 z2 => jo o (by unfold wPl; omega))
      have hFJ := CJ.2.2.2.2.2.2.1
      refine b279_32 (pk_lt k i (fun z => absurd z (by omega)) (fun _ => ?_) rfl rfl (by omega) (by omega))
      refine k_look (Or.inl ⟨rfl, rfl, rfl⟩) hFb (hFJ.2.2 f hf).1 his hLJ CJ.2.2.2.2.1 CJ.2.2.1 (hFJ.2.2 f hf).2 CJ.2.2.2.2.2.2.2.2.2.2.2 (by omega) (fun I2 L2 od k2 o2 l2 => ?_)
      have C2 := wC_lk CJ k2 o2 l2
      have low : ∀ o, o < 40 → I2 o = I1 o := fun o z => (o2 o (by omega) (by omega) (by omega)).trans (jo o (by unfold wPl; omega))
      have lowL : ∀ o, o < 40 → L2 o = L o := fun o z => (l2 o (by omega)).trans (ko o z)
      have le0 := sOd_le g fr s.1 (fo f) (sFirst g) 0
      have jo2 : ∀ o, ¬ (wPl o ∨ o = 89 ∨ o = 90 ∨ o = 91) → I2 o = I1 o := fun o z => (o2 o (by omega) (by omega) (by omega)).trans (jo o z)
      refine k_of (e := 0) rfl C2.1.1 (by decide) ?_
      rw [sCm] at hs
      refine pk_ne (sOd g fr s.1 (fo f) (sFirst g) 0) 0 (fun z => b279_68 (pk_le k i (fun z2 => absurd z2 (by omega)) (fun _ => ?_) rfl rfl (by omega) (by omega))) (fun z => fin (nI i) s (t + i + 1) I2 L2 _ (by rw [← hs, if_pos z]) (by omega) C2 low lowL) (od 0 (by decide)) rfl (by omega) (by omega)
      rw [if_neg z] at hs
      refine w_playOne C2 (kLay_of hL (fun o z1 z2 => jo2 o (by unfold wPl; omega))) his hf (fun I3 L3 kc3 _ en3 o3 l3 => And.intro rfl (b279_80 ?_))
      have qq := ih (i + 1) (sPl1 g fr rl ru (fo f) s) I3 L3 (some 62, some (131 + 5 * f), some 69) (by omega) hs (sGm_in hg his) (wC_pl C2 kc3 en3 o3 l3) (fun o z => (o3 o (fun w => z (Or.inl w))).trans (jo2 o z)) (fun o z => (funext fun k => l3 o k (by omega)).trans (lowL o z))
      rw [← nI_1] at qq
      exact qq
  exact key k 0 (c, en) I1 L q (by omega) rfl hin C1 (fun _ _ => rfl) (fun _ _ => rfl)
end
