-- ===== calls on both: ways, few =====
section
variable {G : zG} {n : Nat} {I : zI} {L : zL} {q : zq} {post : zPo} {g : zg} {c : sC} {fr : Nat → Nat} {nr : Nat} {rl : zrl} {ru : Option Nat} {nf : Nat} {fo : Nat → zfo} {en : Nat → Int32} {tx : Nat → Nat} {tn : Nat} {kp : Nat → Bool} {kc : Nat → sC} {wa : List zwt} {ro : List Int64} {t : Nat}
theorem wOk_Ws : wOk tWs := ⟨by decide, by decide, fun k => ⟨rfl, rfl, rfl, rfl, rfl, rfl⟩, fun k => ⟨rfl, rfl, rfl, rfl, rfl, rfl⟩, fun k => ⟨rfl, rfl, rfl, rfl⟩⟩
theorem wC_go {I' : zI} {L' : zL} (h : wC g c fr nr rl ru nf fo en tx tn kp kc wa ro t I L) (hf : pFr pGo I I') (hL : lGo L L') : wC g c fr nr rl ru nf fo en tx tn kp kc wa ro t I' L' := by
  have ho : ∀ o, (o < 65 ∨ (67 < o ∧ o < 79) ∨ o = 84 ∨ o = 85 ∨ 88 < o) → I' o = I o := fun o z => funext fun k => hf o k (by unfold pGo; omega)
  exact wC_play h (fun o z => ho o (by unfold wKeep at z; omega)) (kZ_of h.1 (fun o z1 z2 => ho o (by omega))) (kC_of h.2.2.1 (ho 63 (by omega)) (ho 64 (by omega)) (fun k _ => by rw [ho 62 (by omega)])) (kEn_of h.2.2.2.2.2.2.2.2.1 (ho 94 (by omega))) (kRow_of h.2.2.2.2.2.2.2.2.2.2.1 (ho 96 (by omega)) (funext fun k => hL 97 k (by omega))) (kMk_of h.2.2.2.2.2.2.2.2.2.2.2 (ho 89 (by omega)) (ho 91 (by omega)) (ho 92 (by omega)))
/-- the spare chest is no part of what is told -/
theorem wC_sp {I' : zI} (h : wC g c fr nr rl ru nf fo en tx tn kp kc wa ro t I L) (hf : zFr (tCh 65 66 67) I I') : wC g c fr nr rl ru nf fo en tx tn kp kc wa ro t I' L := wC_go h (fun o k z => hf o k (by
  cases e : tCh 65 66 67 o k with
  | false => rfl
  | true => exact absurd (tCh_go e) z)) (fun _ _ _ => rfl)
theorem w_ways {x y : Int32} (h : wB g c fr nr rl ru nf fo en tx tn kp kc wa ro t I L) : zC G (n + 300) 281 [.ref 40, .int x, .int y] I L (zR1 q) (wPo G (n + 300) 105 [.ref 0, .int x, .int y] t) := by
  obtain ⟨hM, hC⟩ := h
  have hFs := hC.2.2.2.2.2.2.1
  have hMf := hM.2.2.2.2.1
  refine zin0 rfl rfl rfl (b281_0 (w_foeAt hFs (fun f e hf => ?_) (fun z => b281_19 ⟨⟨_, rfl⟩, q, rfl, c_ways0 hMf.1 hMf.2.1 z ⟨rfl, ⟨q, rfl⟩, wE_34 hM hC (by omega)⟩⟩)))
  subst e
  have hg0 := hM.1.1.1
  have no : xOut y 4 → ∀ v3, zQ G 281 (n + 299) (wPo G (n + 300) 105 [.ref 0, .int (nI f), .int y] t) 19 [some (.ref 40), some (.int (nI f)), some (.int y), v3] [] I L (zR1 q) := fun z v3 => b281_19 ⟨⟨_, rfl⟩, q, rfl, c_ways (n := n + 20) (gW_M hM hf) hf hMf.1 hMf.2.1 (hMf.2.2 f hf).1 (fun k e hk => absurd z (xOut_no (by omega) (by decide) e)) (fun k e hk => absurd z (xOut_no (by omega) (by decide) e)) (fun _ => ⟨rfl, ⟨q, rfl⟩, wE_34 hM hC (by omega)⟩)⟩
  rcases pk_ix y (n := 4) (by decide) with c0 | c0 | ⟨k, hk, rfl⟩
  · exact And.intro (fun _ => no (.inl c0) _) (fun z => absurd c0 z)
  · exact And.intro (fun z => no (.inl z) _) (fun z => And.intro (fun w => absurd w (xOut_le (m := 3) (by decide) (.inr c0) z)) (fun _ => no (.inr c0) _))
  refine And.intro (fun z => absurd z (nI_pos (by omega))) (fun _ => pk_le k 3 (fun _ => b281_21 ?_) (fun z => absurd z (by omega)) rfl rfl (by omega) (by omega))
  refine w_lay hC (fun I0 C0 hL0 ho0 => ?_)
  have M0 := wM_lo hM (fun o z => ho0 o (by omega)) (fun _ _ => rfl)
  have hg := hL0.1.1
  have hin := M0.2.1.2
  refine k_copyFrom (O := 65) (B := 66) (P := 67) (Or.inl ⟨rfl, rfl, rfl, rfl, rfl, rfl⟩) hg C0.2.2.1 (fun I1 kc1 f1 => ?_)
  have C1 := wC_sp C0 f1
  have M1 := wM_lo M0 (I' := I1) (L' := L) (fun o z => ch_row f1 (by omega) (by omega) (by omega)) (fun _ _ => rfl)
  have hL : kLay g I1 := kLay_of hL0 (fun o z1 z2 => ch_row f1 (by omega) (by omega) (by omega))
  have hF1 := C1.2.2.2.2.2.2.1
  have hFb := kFb_f (f := f) (by have := hFs.1; omega)
  have hok := (hF1.2.2 f hf).1
  have h8 := C1.2.2.2.2.2.2.2.1
  have hMf1 := M1.2.2.2.2.1
  have ne : (sWa (sWw g fr rl ru (fo f) c k)).1 ≠ 0 := by
    unfold sWa
    rw [wAcc_n]
    have hd := sDep_first g hg
    have := sWy_ne hg (fr := fr) (rl := rl) (ru := ru) (F := fo f) hok 100 k (sFirst g) c [] 1000000000 (by omega) (sR_first g) hin (fun d hd => by cases hd)
    intro z
    have z2 : (sWw g fr rl ru (fo f) c k).length = 0 := by
      have z' : 0 + (sWw g fr rl ru (fo f) c k).length = 0 := z
      omega
    exact this (List.length_eq_zero_iff.mp z2)
  refine w_ruleNow C1.2.2.2.2.2.1 (fun rv RO RA RT hv hrv => ?_)
  rcases hv with rfl | ⟨ro1, rfl⟩ <;> (
    refine k_goThrough (gs := k) hFb hok ⟨(hF1.2.2 f hf).2, hL, fun k hk => (h8 k hk).2, hrv⟩ ⟨⟨rfl, rfl⟩, Or.inl rfl⟩ C1.2.2.2.2.1 C1.2.2.1 kc1 hin (by omega) (fun hlen I2 L2 ac2 _ fr2 lg2 => ?_) (fun hlen I2 L2 _ fr2 lg2 => ?_)
    · have C2 := wC_go C1 fr2 lg2
      have M2 := wM_lo M1 (I' := I2) (L' := L2) (fun o z => funext fun k => fr2 o k (by unfold pGo; omega)) (fun o z => funext fun k => lg2 o k (by omega))
      refine And.intro (fun _ => b281_70 ?_) (fun z => absurd z (by decide))
      have e21 := ac2.2.2.2.1
      have e22 := ac2.2.2.2.2.1
      rw [if_neg ne] at e21 e22
      have fin : ∀ (J3 : zI) (K3 : zL), kRow [lN (sWa (sWw g fr rl ru (fo f) c k)).1, lN (sWa (sWw g fr rl ru (fo f) c k)).2.1, lN (sWa (sWw g fr rl ru (fo f) c k)).2.2.1, lN (sWa (sWw g fr rl ru (fo f) c k)).2.2.2.1, lN (sWa (sWw g fr rl ru (fo f) c k)).2.2.2.2] J3 K3 → (∀ o, o ≠ 96 → J3 o = I2 o) → (∀ o, o ≠ 97 → K3 o = L2 o) → wPo G (n + 300) 105 [.ref 0, .int (nI f), .int (nI k)] t (some (.int 0)) J3 K3 (zR1 q) := fun J3 K3 r j3 k3 => by
        have C3 := wC_ro C2 j3 r
        have M3 := wM_lo M2 (I' := J3) (L' := K3) (fun o z => j3 o (by omega)) (fun o z => k3 o (by omega))
        have hM3 := M3.2.2.2.2.1
        exact ⟨⟨_, rfl⟩, q, rfl, c_ways (n := n + 20) (gW_M M3 hf) hf hM3.1 hM3.2.1 (hM3.2.2 f hf).1 (fun k2 e2 hk2 hln I4 L4 mc4 m4 _ h35 f4 l4 => by
          have ek : k2 = k := (nI_inj (by omega) (by omega) e2).symm
          subst ek
          exact ⟨rfl, ⟨q, rfl⟩, ⟨g, c, fr, nr, rl, ru, nf, fo, en, tx, tn, kp, kc, wa, _, t, by omega, wM_t M3 f4 wOk_Ws (fun s _ => f4 6 s rfl) (fun j c' _ z => mK_of z (zFr_row f4 fun _ => rfl) (zFr_row f4 fun _ => rfl) (zFr_row f4 fun _ => rfl)) (funext fun j => l4 13 j (by decide) (by omega)) mc4 hin (fun k hk => (f4 15 k rfl).trans (M3.2.2.2.2.2.1 k hk)) m4 C3.2.2.2.2.2.2.2.2.2.2.1.2.1 h35, wC_hi C3 (hi_of (fun _ _ => rfl) f4) (funext fun j => l4 97 j (by decide) (by omega))⟩⟩) (fun k2 e2 hk2 hln => by
          have ek : k2 = k := (nI_inj (by omega) (by omega) e2).symm
          subst ek
          omega) (fun z => absurd z (xOut_no (by omega) (by decide) rfl))⟩
      rw [← ac2.1, ← ac2.2.1, ← ac2.2.2.1, ← e21, ← e22] at fin
      exact k_begin (fun r0 => k_add r0 (by show 0 < 32; decide) (fun r1 => k_add r1 (by show 1 < 32; decide) (fun r2 => k_add r2 (by show 2 < 32; decide) (fun r3 => k_add r3 (by show 3 < 32; decide) (fun r4 => k_add r4 (by show 4 < 32; decide) (fun r5 => fin _ _ r5 (fun o z => by rw [zup_ne z, zup_ne z, zup_ne z, zup_ne z, zup_ne z, zup_ne z]) (fun o z => by rw [zup_ne z, zup_ne z, zup_ne z, zup_ne z, zup_ne z])))))))
    · have C2 := wC_go C1 fr2 lg2
      have M2 := wM_lo M1 (I' := I2) (L' := L2) (fun o z => funext fun k => fr2 o k (by unfold pGo; omega)) (fun o z => funext fun k => lg2 o k (by omega))
      have hM2 := M2.2.2.2.2.1
      refine And.intro (fun z => absurd rfl z) (fun _ => ⟨⟨_, rfl⟩, q, rfl, c_ways (n := n + 20) (gW_M M2 hf) hf hM2.1 hM2.2.1 (hM2.2.2 f hf).1 (fun k2 e2 hk2 hln => ?_) (fun k2 e2 hk2 hln I4 L4 mc4 _ h35 h33 f4 l4 => ?_) (fun z => absurd z (xOut_no (by omega) (by decide) rfl))⟩)
      · intro I4
        have ek : k2 = k := (nI_inj (by omega) (by omega) e2).symm
        subst ek
        omega
      · refine ⟨rfl, ⟨q, rfl⟩, ⟨g, c, fr, nr, rl, ru, nf, fo, en, tx, tn, kp, kc, wa, ro, t, by omega, wM_t M2 f4 wOk_Ws (fun s _ => f4 6 s rfl) (fun j c' _ z => mK_of z (zFr_row f4 fun _ => rfl) (zFr_row f4 fun _ => rfl) (zFr_row f4 fun _ => rfl)) (funext fun j => l4 13 j (by omega)) mc4 hin (fun k hk => (f4 15 k rfl).trans (M2.2.2.2.2.2.1 k hk)) ?_ M2.2.2.2.2.2.2.2.2.2.1.2 h35, wC_hi C2 (hi_of (fun _ _ => rfl) f4) (funext fun j => l4 97 j (by omega))⟩⟩
        unfold mRow
        rw [h33, show L4 17 = L2 17 from funext fun j => l4 17 j (by omega)]
        exact M2.2.2.2.2.2.2.2.2.2.1.1)
theorem wOk_Fw : wOk tFw := ⟨by decide, by decide, fun k => ⟨rfl, rfl, rfl, rfl, rfl, rfl⟩, fun k => ⟨rfl, rfl, rfl, rfl, rfl, rfl⟩, fun k => ⟨rfl, rfl, rfl, rfl⟩⟩
/-- what games with the spare chest touch -/
def wSp (o : Nat) : Prop := (65 ≤ o ∧ o ≤ 67) ∨ (72 ≤ o ∧ o ≤ 76) ∨ o = 78 ∨ o = 79 ∨ o = 86 ∨ o = 87
theorem wC_sq {I' : zI} {L' : zL} (h : wC g c fr nr rl ru nf fo en tx tn kp kc wa ro t I L) (ho : ∀ o, ¬ wSp o → I' o = I o) (hL : lPk L L') : wC g c fr nr rl ru nf fo en tx tn kp kc wa ro t I' L' := wC_play h (fun o z => ho o (by unfold wKeep at z; unfold wSp; omega)) (kZ_of h.1 (fun o z1 z2 => ho o (by unfold wSp; omega))) (kC_of h.2.2.1 (ho 63 (by unfold wSp; omega)) (ho 64 (by unfold wSp; omega)) (fun k _ => by rw [ho 62 (by unfold wSp; omega)])) (kEn_of h.2.2.2.2.2.2.2.2.1 (ho 94 (by unfold wSp; omega))) (kRow_of h.2.2.2.2.2.2.2.2.2.2.1 (ho 96 (by unfold wSp; omega)) (funext fun k => hL 97 k (by omega))) (kMk_of h.2.2.2.2.2.2.2.2.2.2.2 (ho 89 (by unfold wSp; omega)) (ho 91 (by unfold wSp; omega)) (ho 92 (by unfold wSp; omega)))
theorem x50_of {y : Int32} (h1 : ¬ y < 1) (h2 : y ≤ 50) : ∃ k, y = nI k ∧ 1 ≤ k ∧ k ≤ 50 := by
  obtain ⟨k, hk, e⟩ := nI_of2 (x := y) (M := 50) (n := 50) (by decide) (fun w => h1 (Int32.lt_trans w (by decide))) h2
  subst e
  refine ⟨k, rfl, ?_, hk⟩
  by_cases c : 1 ≤ k
  · exact c
  · exact absurd ((nI_ltI (b := 1) (by omega) (by decide)).mpr (by omega)) h1
theorem x50_no {y : Int32} (h : y < 1 ∨ ¬ y ≤ 50) : ∀ k, y = nI k → 1 ≤ k → 50 < k := fun k e hk => by
  by_cases c : k ≤ 50
  · subst e
    rcases h with h | h
    · exact absurd ((nI_ltI (b := 1) (by omega) (by decide)).mp h) (by omega)
    · exact absurd ((nI_leI (b := 50) (by omega) (by decide)).mpr c) h
  · omega
theorem w_few {x y : Int32} (h : wB g c fr nr rl ru nf fo en tx tn kp kc wa ro t I L) : zC G (n + 300) 286 [.ref 40, .int x, .int y] I L (zR1 q) (wPo G (n + 300) 117 [.ref 0, .int x, .int y] t) := by
  obtain ⟨hM, hC⟩ := h
  have hFs := hC.2.2.2.2.2.2.1
  have hMf := hM.2.2.2.2.1
  refine zin0 rfl rfl rfl (b286_0 (w_foeAt hFs (fun f e hf => ?_) (fun z => b286_21 ⟨⟨_, rfl⟩, q, rfl, c_few0 hMf.1 hMf.2.1 z ⟨rfl, ⟨q, rfl⟩, wE_34 hM hC (by omega)⟩⟩)))
  subst e
  have no : (y < 1 ∨ ¬ y ≤ 50) → ∀ v3 v4, zQ G 286 (n + 299) (wPo G (n + 300) 117 [.ref 0, .int (nI f), .int y] t) 21 [some (.ref 40), some (.int (nI f)), some (.int y), v3, v4] [] I L (zR1 q) := fun z v3 v4 => b286_21 ⟨⟨_, rfl⟩, q, rfl, c_few (gW_M hM hf) hf hMf.1 hMf.2.1 (hMf.2.2 f hf).1 (fun k e h1 hk => absurd (x50_no z k e h1) (by omega)) (fun _ => ⟨rfl, ⟨q, rfl⟩, wE_34 hM hC (by omega)⟩)⟩
  refine And.intro (fun z => no (Or.inl z) _ _) (fun z1 => And.intro (fun z2 => b286_23 ?_) (fun z2 => no (Or.inr z2) _ _))
  obtain ⟨k, ek, k1, k50⟩ := x50_of z1 z2
  subst ek
  refine w_lay hC (fun I1 C1 hL ho => ?_)
  have M1 := wM_lo hM (fun o z => ho o (by omega)) (fun _ _ => rfl)
  have hg := hL.1.1
  have hin := M1.2.1.2
  have hbd := cAll_bd hin.1 (k := 0) (by omega)
  have hFb := kFb_f (f := f) (by have := hFs.1; omega)
  have hX : kXo 72 73 74 75 76 77 65 66 67 := Or.inr (Or.inl ⟨rfl, rfl, rfl, rfl, rfl, rfl, rfl, rfl, rfl⟩)
  have fin : ∀ (v : Int32) (J : zI) (K : zL), v = zo2 (sFew g rl ru (fo f) c k 20 1) → (∀ o, ¬ wSp o → J o = I1 o) → lPk L K → wPo G (n + 300) 117 [.ref 0, .int (nI f), .int (nI k)] t (some (.int v)) J K (zR1 q) := fun v J K e jo kl => by
    have C3 := wC_sq C1 jo kl
    have M3 := wM_lo M1 (I' := J) (L' := K) (fun o z => jo o (by unfold wSp; omega)) (fun o z => funext fun k => kl o k (by omega))
    have hM3 := M3.2.2.2.2.1
    refine ⟨⟨_, rfl⟩, q, rfl, c_few (gW_M M3 hf) hf hM3.1 hM3.2.1 (hM3.2.2 f hf).1 (fun k2 e2 _ hk2 I4 w4 mk4 _ f4 h6 => ?_) (fun z => absurd (z k rfl k1) (by omega))⟩
    have ek : k2 = k := (nI_inj (by omega) (by omega) e2).symm
    subst ek
    refine ⟨by rw [e], ⟨q, rfl⟩, ⟨g, c, fr, nr, rl, ru, nf, fo, en, tx, tn, kp, kc, wa, ro, t, by omega, wM_t M3 f4 wOk_Fw h6 mk4 rfl w4.2.2.2.2.2.2.1 hin (fun k hk => (f4 15 k rfl).trans (M3.2.2.2.2.2.1 k hk)) ?_ M3.2.2.2.2.2.2.2.2.2.1.2 w4.2.2.2.2.2.2.2, wC_hi C3 (hi_of (fun _ _ => rfl) f4) rfl⟩⟩
    unfold mRow
    rw [f4 0 33 rfl]
    exact M3.2.2.2.2.2.2.2.2.2.1.1
  have key : ∀ (j v : Nat) (J : zI) (K : zL), 1 ≤ v → v + j = 21 → sFew g rl ru (fo f) c k j v = sFew g rl ru (fo f) c k 20 1 → (∀ o, ¬ wSp o → J o = I1 o) → lPk L K → zQ G 286 (n + 299) (wPo G (n + 300) 117 [.ref 0, .int (nI f), .int (nI k)] t) 33 [some (.ref 40), some (.int (nI f)), some (.int (nI k)), some (.ref (131 + 5 * f)), some (.int (nI v))] [] J K (zR1 q) := by
    intro j
    induction j with
    | zero =>
      intro v J K h1 hv hs jo kl
      have ev : v = 21 := by omega
      subst ev
      exact b286_33 (pk_lt 20 21 (fun _ => b286_89 (fin _ J K (by rw [← hs]; rfl) jo kl)) (fun z => absurd z (by omega)) rfl rfl (by omega) (by omega))
    | succ j ih =>
      intro v J K h1 hv hs jo kl
      have CJ := wC_sq C1 jo kl
      have hLJ : kLay g J := kLay_of hL (fun o z1 z2 => jo o (by unfold wSp; omega))
      refine b286_33 (pk_lt 20 v (fun z => absurd z (by omega)) (fun _ => ?_) rfl rfl (by omega) (by omega))
      refine k_copyFrom (O := 65) (B := 66) (P := 67) (Or.inl ⟨rfl, rfl, rfl, rfl, rfl, rfl⟩) hg CJ.2.2.1 (fun I2 kc2 f2 => ?_)
      refine k_emptyAll (c := c) (O := 65) (B := 66) (P := 67) (Or.inr (Or.inl ⟨rfl, rfl, rfl⟩)) hbd.2.2 kc2.2.2.2.1 kc2.2.2.2.2 (fun I3 kc3 f3 => ?_)
      have o3 : ∀ o, ¬ wSp o → I3 o = J o := fun o z => (ch_row f3 (by unfold wSp at z; omega) (by unfold wSp at z; omega) (by unfold wSp at z; omega)).trans (ch_row f2 (by unfold wSp at z; omega) (by unfold wSp at z; omega) (by unfold wSp at z; omega))
      have C3 := wC_sq CJ o3 (lPk_0 K)
      have hL3 : kLay g I3 := kLay_of hLJ (fun o z1 z2 => o3 o (by unfold wSp; omega))
      have hF3 := C3.2.2.2.2.2.2.1
      have h83 := C3.2.2.2.2.2.2.2.1
      refine w_ruleNow C3.2.2.2.2.2.1 (fun rv RO RA RT hv2 hrv => ?_)
      rcases hv2 with rfl | ⟨ro1, rfl⟩ <;> (
        refine k_lasts (vn := v) hX rfl hFb (hF3.2.2 f hf).1 ⟨(hF3.2.2 f hf).2, hL3, fun k hk => (h83 k hk).1, hrv⟩ rfl (by omega) (by omega) (kc3 g hg) (cIn_clr hin.1) (fun c' I4 kc4 f4 L4 l4 => ?_)
        have o4 : ∀ o, ¬ wSp o → I4 o = I1 o := fun o z => (funext fun k => f4 o k (fun w => w.elim (fun w => pMt_no (by unfold wSp at z; omega) (by unfold wSp at z; omega) w) (fun w => by unfold wSp at z; omega))).trans ((o3 o z).trans (jo o z))
        rw [sFew] at hs
        refine zbo_eq (fun d => b286_83 ?_) (fun d => fin _ I4 L4 (by rw [← hs, if_pos d]; rfl) o4 (lPk_tr kl l4))
        rw [if_neg (by rw [d]; decide)] at hs
        have qq := ih (v + 1) I4 L4 (by omega) (by omega) hs o4 (lPk_tr kl l4)
        rw [← nI_1] at qq
        exact qq)
  exact key 20 1 I1 L (by omega) (by omega) rfl (fun _ _ => rfl) (lPk_0 L)
end
