-- ===== calls on both: odds, play, run, come =====
section
variable {G : zG} {n : Nat} {I : zI} {L : zL} {q : zq} {post : zPo} {g : zg} {c : sC} {fr : Nat → Nat} {nr : Nat} {rl : zrl} {ru : Option Nat} {nf : Nat} {fo : Nat → zfo} {en : Nat → Int32} {tx : Nat → Nat} {tn : Nat} {kp : Nat → Bool} {kc : Nat → sC} {wa : List zwt} {ro : List Int64} {t : Nat}
theorem gW_M {f : Nat} (h : wM g c fr nr rl ru nf fo en tx tn kp kc wa ro I L) (hf : f < nf) : gW g fr nr rl ru f (fo f) c I L := ⟨h.1.1, h.1.2, h.2.2.1, (h.2.2.2.2.1.2.2 f hf).2, h.2.2.2.1, h.2.1.2, h.2.1.1, h.2.2.2.2.2.2.2.2.2.2⟩
theorem wOk_Q : wOk tQ := ⟨by decide, by decide, fun k => ⟨rfl, rfl, rfl, rfl, rfl, rfl⟩, fun k => ⟨rfl, rfl, rfl, rfl, rfl, rfl⟩, fun k => ⟨rfl, rfl, rfl, rfl⟩⟩
theorem wOk_OT : wOk tOT := ⟨by decide, by decide, fun k => ⟨rfl, rfl, rfl, rfl, rfl, rfl⟩, fun k => ⟨rfl, rfl, rfl, rfl, rfl, rfl⟩, fun k => ⟨rfl, rfl, rfl, rfl⟩⟩
theorem wM_Q {f : Nat} {F : zfo} {c' : sC} {en' : Nat → Int32} {ro' : List Int64} {I' : zI} {L' : zL} (h : wM g c fr nr rl ru nf fo en tx tn kp kc wa ro I L) (hw : gW g fr nr rl ru f F c' I' L') (hf : zFr tQ I I') (hL : L' 13 = L 13) (he : mE en' I') (hro : mRow ro' I' L') (hl : ro'.length ≤ 32) : wM g c' fr nr rl ru nf fo en' tx tn kp kc wa ro' I' L' := wM_t h hf wOk_Q (fun s _ => hf 6 s rfl) (fun j c' _ z => mK_of z (zFr_row hf fun _ => rfl) (zFr_row hf fun _ => rfl) (zFr_row hf fun _ => rfl)) hL hw.2.2.2.2.2.2.1 hw.2.2.2.2.2.1 he hro hl hw.2.2.2.2.2.2.2
/-- after a game: the class's world -/
theorem wC_pl {c' : sC} {en' : Nat → Int32} {I' : zI} {L' : zL} (h : wC g c fr nr rl ru nf fo en tx tn kp kc wa ro t I L) (kc' : kC g c' 62 63 64 I') (he : kEn en' I') (ho : ∀ o, ¬ wPl o → I' o = I o) (hL : lPk L L') : wC g c' fr nr rl ru nf fo en' tx tn kp kc wa ro t I' L' := wC_play h (fun o z => ho o (by unfold wKeep at z; unfold wPl; omega)) (kZ_of h.1 (fun o z1 z2 => ho o (by unfold wPl; omega))) kc' he (kRow_of h.2.2.2.2.2.2.2.2.2.2.1 (ho 96 (by unfold wPl; omega)) (funext fun k => hL 97 k (by omega))) (kMk_of h.2.2.2.2.2.2.2.2.2.2.2 (ho 89 (by unfold wPl; omega)) (ho 91 (by unfold wPl; omega)) (ho 92 (by unfold wPl; omega)))
/-- after a look -/
theorem wC_lk {t' : Nat} {I' : zI} {L' : zL} (h : wC g c fr nr rl ru nf fo en tx tn kp kc wa ro t I L) (hk : kMk t' I') (ho : ∀ o, o ≠ 89 → o ≠ 90 → o ≠ 91 → I' o = I o) (hL : ∀ o, o ≠ 93 → L' o = L o) : wC g c fr nr rl ru nf fo en tx tn kp kc wa ro t' I' L' := wC_play h (fun o z => ho o (by unfold wKeep at z; omega) (by unfold wKeep at z; omega) (by unfold wKeep at z; omega)) (kZ_of h.1 (fun o z1 z2 => ho o (by omega) (by omega) (by omega))) (kC_of h.2.2.1 (ho 63 (by omega) (by omega) (by omega)) (ho 64 (by omega) (by omega) (by omega)) (fun k _ => by rw [ho 62 (by omega) (by omega) (by omega)])) (kEn_of h.2.2.2.2.2.2.2.2.1 (ho 94 (by omega) (by omega) (by omega))) (kRow_of h.2.2.2.2.2.2.2.2.2.2.1 (ho 96 (by omega) (by omega) (by omega)) (hL 97 (by omega))) hk
theorem w_odds {x : Int32} (h : wB g c fr nr rl ru nf fo en tx tn kp kc wa ro t I L) (ht : t < 2 ^ 29) : zC G (n + 300) 280 [.ref 40, .int x] I L (zR1 q) (wPo G (n + 300) 98 [.ref 0, .int x] t) := by
  obtain ⟨hM, hC⟩ := h
  have hFs := hC.2.2.2.2.2.2.1
  refine zin0 rfl rfl rfl (b280_0 (w_foeAt hFs (fun f e hf => b280_12 ?_) (fun z => ⟨⟨_, rfl⟩, q, rfl, c_odds0 hM.2.2.2.2.1.1 hM.2.2.2.2.1.2.1 z ⟨rfl, ⟨q, rfl⟩, wE_34 hM hC (by omega)⟩⟩)))
  subst e
  refine w_lay hC (fun I1 C1 hL ho => ?_)
  have M1 := wM_lo hM (fun o z => ho o (by omega)) (fun _ _ => rfl)
  have hg := hL.1.1
  have hin := M1.2.1.2
  have hF1 := C1.2.2.2.2.2.2.1
  refine k_look (Or.inl ⟨rfl, rfl, rfl⟩) (kFb_f (by have := hFs.1; omega)) (hF1.2.2 f hf).1 hin hL C1.2.2.2.2.1 C1.2.2.1 (hF1.2.2 f hf).2 C1.2.2.2.2.2.2.2.2.2.2.2 (by omega) (fun I2 L2 od k2 o2 l2 => ?_)
  have M2 := wM_lo M1 (I' := I2) (L' := L2) (fun o z => o2 o (by omega) (by omega) (by omega)) (fun o z => l2 o (by omega))
  have C2 := wC_lk C1 k2 o2 l2
  have hg2 : kG g I2 := C2.1.1
  have ev : ∀ e, e < 3 → (I2 90 (3 * sFirst g + e)).toInt64 = lN (sOd g fr c (fo f) (sFirst g) e) := fun e he => by
    have := sOd_le g fr c (fo f) (sFirst g) e
    rw [od e he, nI_l (by omega)]
  have fin : ∀ (J : zI) (K : zL) (q' : zq), kRow [lN (sOd g fr c (fo f) (sFirst g) 2), lN (sOd g fr c (fo f) (sFirst g) 1), lN (sOd g fr c (fo f) (sFirst g) 0)] J K → (∀ o, o ≠ 96 → J o = I2 o) → (∀ o, o ≠ 97 → K o = L2 o) → wPo G (n + 300) 98 [.ref 0, .int (nI f)] t (some (.int 0)) J K (zR1 q') := fun J K q' r jo ko => by
    have C3 := wC_ro C2 jo r
    have M3 := wM_lo M2 (I' := J) (L' := K) (fun o z => jo o (by omega)) (fun o z => ko o (by omega))
    have W := gW_M M3 hf
    have hMf := M3.2.2.2.2.1
    exact ⟨⟨_, rfl⟩, q', rfl, c_odds ⟨W.1, W.2.1, W.2.2.1, W.2.2.2.2.2.2.1, W.2.2.2.1⟩ hin.1 hf hMf.1 hMf.2.1 (hMf.2.2 f hf).1 (fun I4 L4 m4 _ f4 l4 => ⟨rfl, ⟨q', rfl⟩, ⟨g, c, fr, nr, rl, ru, nf, fo, en, tx, tn, kp, kc, wa, _, t + 1, by omega, wM_t M3 f4 wOk_OT (fun s _ => f4 6 s rfl) (fun j c' _ z => mK_of z (zFr_row f4 fun _ => rfl) (zFr_row f4 fun _ => rfl) (zFr_row f4 fun _ => rfl)) (l4 13 (by decide) (by decide) (by decide) (by decide)) (mC_of M3.2.1.1 (zFr_row f4 fun _ => rfl) (zFr_row f4 fun _ => rfl) (f4 0 14 rfl) (f4 0 15 rfl) (f4 0 16 rfl)) hin (fun k hk => (f4 15 k rfl).trans (M3.2.2.2.2.2.1 k hk)) m4 C3.2.2.2.2.2.2.2.2.2.2.1.2.1 ((f4 0 35 rfl).trans M3.2.2.2.2.2.2.2.2.2.2), wC_hi C3 (hi_of (fun _ _ => rfl) f4) (l4 97 (by decide) (by decide) (by decide) (by decide))⟩⟩)⟩
  rw [← ev 2 (by decide), ← ev 1 (by decide), ← ev 0 (by decide)] at fin
  have kz : ∀ J : zI, (∀ o, o ≠ 96 → J o = I2 o) → kG g J := fun J jo => kG_of hg2 (jo 45 (by decide))
  refine k_begin (fun r0 => ?_)
  refine k_of (e := 2) rfl (kz _ (fun o z => zup_ne z)) (by decide) ?_
  refine k_add r0 (by show 0 < 32; decide) (fun r1 => ?_)
  refine k_of (e := 1) rfl (kz _ (fun o z => by rw [zup_ne z, zup_ne z])) (by decide) ?_
  refine k_add r1 (by show 1 < 32; decide) (fun r2 => ?_)
  refine k_of (e := 0) rfl (kz _ (fun o z => by rw [zup_ne z, zup_ne z, zup_ne z])) (by decide) ?_
  refine k_add r2 (by show 2 < 32; decide) (fun r3 => ?_)
  exact fin _ _ _ r3 (fun o z => by rw [zup_ne z, zup_ne z, zup_ne z, zup_ne z]) (fun o z => by rw [zup_ne z, zup_ne z, zup_ne z])
theorem w_play {x : Int32} (h : wB g c fr nr rl ru nf fo en tx tn kp kc wa ro t I L) : zC G (n + 300) 277 [.ref 40, .int x] I L (zR1 q) (wPo G (n + 300) 91 [.ref 0, .int x] t) := by
  obtain ⟨hM, hC⟩ := h
  have hFs := hC.2.2.2.2.2.2.1
  refine zin0 rfl rfl rfl (b277_0 (w_foeAt hFs (fun f e hf => b277_12 ?_) (fun z => ⟨⟨_, rfl⟩, q, rfl, c_play0 hM.2.2.2.2.1.1 hM.2.2.2.2.1.2.1 z ⟨rfl, ⟨q, rfl⟩, wE_34 hM hC (by omega)⟩⟩)))
  subst e
  refine w_lay hC (fun I1 C1 hL ho => ?_)
  have M1 := wM_lo hM (fun o z => ho o (by omega)) (fun _ _ => rfl)
  have hg := hL.1.1
  have hin := M1.2.1.2
  have len := sGm_len hg (fr := fr) (rl := rl) (ru := ru) (F := fo f) hin
  refine w_playOne C1 hL hin hf (fun I2 L2 kc2 ms2 en2 o2 l2 => ?_)
  have C2 := wC_pl C1 kc2 en2 o2 l2
  have M2 := wM_lo M1 (I' := I2) (L' := L2) (fun o z => o2 o (by unfold wPl; omega)) (fun o z => funext fun k => l2 o k (by omega))
  have fin : ∀ (J : zI) (K : zL), kRow (tellL (sGm g fr rl ru (fo f) c).2.2) J K → (∀ o, o ≠ 96 → J o = I2 o) → (∀ o, o ≠ 97 → K o = L2 o) → wPo G (n + 300) 91 [.ref 0, .int (nI f)] t (some (.int (nI (sGm g fr rl ru (fo f) c).1))) J K (zR1 q) := fun J K r jo ko => by
    have C3 := wC_ro C2 jo r
    have M3 := wM_lo M2 (I' := J) (L' := K) (fun o z => jo o (by omega)) (fun o z => ko o (by omega))
    have hMf := M3.2.2.2.2.1
    exact ⟨⟨_, rfl⟩, q, rfl, c_play (gW_M M3 hf) hf hMf.1 hMf.2.1 (hMf.2.2 f hf).1 M3.2.2.2.2.2.1 (fun I4 L4 w4 e4 m4 _ f4 l4 => ⟨rfl, ⟨q, rfl⟩, ⟨g, _, fr, nr, rl, ru, nf, fo, _, tx, tn, kp, kc, wa, _, t, by omega, wM_Q M3 w4 f4 (l4 13 (by decide)) e4 m4 C3.2.2.2.2.2.2.2.2.2.2.1.2.1, wC_hi C3 (hi_of (fun _ _ => rfl) f4) (l4 97 (by decide))⟩⟩)⟩
  have ln : (tellL (sGm g fr rl ru (fo f) c).2.2).length = (sGm g fr rl ru (fo f) c).2.2.length := List.length_map _
  have key : ∀ (j i : Nat) (J : zI) (K : zL), i + j = (sGm g fr rl ru (fo f) c).2.2.length → kRow ((tellL (sGm g fr rl ru (fo f) c).2.2).take i) J K → (∀ o, o ≠ 96 → J o = I2 o) → (∀ o, o ≠ 97 → K o = L2 o) → zQ G 277 (n + 299) (wPo G (n + 300) 91 [.ref 0, .int (nI f)] t) 35 [some (.ref 40), some (.int (nI f)), some (.ref (131 + 5 * f)), some (.int (nI (sGm g fr rl ru (fo f) c).1)), some (.int (nI i))] [] J K (zR1 q) := by
    intro j
    induction j with
    | zero =>
      intro i J K hi r jo ko
      have ms : kMs 72 73 (sGm g fr rl ru (fo f) c).2.2 J := ⟨by rw [jo 72 (by decide)]; exact ms2.1, fun j x hx => by rw [jo 73 (by decide)]; exact ms2.2 j x hx⟩
      rw [List.take_of_length_le (by omega)] at r
      exact b277_35 (k_moveCount ms (pk_le (sGm g fr rl ru (fo f) c).2.2.length i (fun _ => b277_70 (fin J K r jo ko)) (fun z => absurd z (by omega)) rfl rfl (by omega) (by omega)))
    | succ j ih =>
      intro i J K hi r jo ko
      have ms : kMs 72 73 (sGm g fr rl ru (fo f) c).2.2 J := ⟨by rw [jo 72 (by decide)]; exact ms2.1, fun j x hx => by rw [jo 73 (by decide)]; exact ms2.2 j x hx⟩
      have hil : i < (sGm g fr rl ru (fo f) c).2.2.length := by omega
      have ei : (sGm g fr rl ru (fo f) c).2.2[i]? = some (sGm g fr rl ru (fo f) c).2.2[i] := List.getElem?_eq_getElem hil
      have et : (tellL (sGm g fr rl ru (fo f) c).2.2)[i]? = some (nI (sGm g fr rl ru (fo f) c).2.2[i]).toInt64 := by
        unfold tellL
        rw [List.getElem?_map, ei]
        rfl
      have tl : ((tellL (sGm g fr rl ru (fo f) c).2.2).take i).length = i := by rw [List.length_take]; omega
      refine b277_35 (k_moveCount ms (pk_le (sGm g fr rl ru (fo f) c).2.2.length i (fun z => absurd z (by omega)) (fun _ => k_moveAt ms len ei (k_add r (by omega) (fun r2 => ?_))) rfl rfl (by omega) (by omega)))
      rw [← take_snoc et] at r2
      have qq := ih (i + 1) _ _ (by omega) r2 (fun o z => by rw [zup_ne z]; exact jo o z) (fun o z => by rw [zup_ne z]; exact ko o z)
      rw [← nI_1] at qq
      exact qq
  exact k_begin (fun r0 => key _ 0 _ _ (Nat.zero_add _) r0 (fun o z => zup_ne z) (fun _ _ => rfl))
end
