-- ===== a call on both: the class's, then the reference's =====
section
variable {g : zg} {c : sC} {fr : Nat → Nat} {nr : Nat} {rl : zrl} {ru : Option Nat} {nf : Nat} {fo : Nat → zfo} {en : Nat → Int32} {tx : Nat → Nat} {tn : Nat} {kp : Nat → Bool} {kc : Nat → sC} {wa : List zwt} {ro : List Int64} {t : Nat}
/-- what is left behind both -/
def wE (t : Nat) (I : zI) (L : zL) : Prop := ∃ (g : zg) (c : sC) (fr : Nat → Nat) (nr : Nat) (rl : zrl) (ru : Option Nat) (nf : Nat) (fo : Nat → zfo) (en : Nat → Int32) (tx : Nat → Nat) (tn : Nat) (kp : Nat → Bool) (kc : Nat → sC) (wa : List zwt) (ro : List Int64) (t' : Nat), t' ≤ t + 101 ∧ wB g c fr nr rl ru nf fo en tx tn kp kc wa ro t' I L
/-- behind the class's call: the reference's answers alike -/
def wPo (G : zG) (N y0 : Nat) (as : List Value) (t : Nat) : zPo := fun r I1 L1 R1 => (∃ x, r = some (.int x)) ∧ ∃ q1, R1 = zR1 q1 ∧ zC G N y0 as I1 L1 (zR1 q1) (fun r2 I2 L2 R2 => r2 = r ∧ (∃ q2, R2 = zR1 q2) ∧ wE t I2 L2)
theorem hi_of {tb : Nat → Nat → Bool} {I I' : zI} (ht : ∀ d k, tb (d + 40) k = false) (hf : zFr tb I I') : ∀ o, 40 ≤ o → I' o = I o := fun o z => funext fun k => hf o k (by
  obtain ⟨d, rfl⟩ : ∃ d, o = d + 40 := ⟨o - 40, by omega⟩
  exact ht d k)
theorem wE_34 {v : Int32} {t' : Nat} {I : zI} {L : zL} (hM : wM g c fr nr rl ru nf fo en tx tn kp kc wa ro I L) (hC : wC g c fr nr rl ru nf fo en tx tn kp kc wa ro t' I L) (ht : t' ≤ t + 101) : wE t (zup I 0 34 v) L := ⟨g, c, fr, nr, rl, ru, nf, fo, en, tx, tn, kp, kc, wa, ro, t', ht, wM_34 hM, wC_hi hC (fun o z => zup_ne (by omega)) rfl⟩
theorem sR_nI (hg : gOk g) {p p' : Nat} (hr : sR g p) (hr' : sR g p') (e : nI p = nI p') : p = p' := nI_inj (by have := sR_lt hg hr; omega) (by have := sR_lt hg hr'; omega) e
theorem sR_31 (hg : gOk g) {p : Nat} (hr : sR g p) : p < 2 ^ 31 := by have := sR_lt hg hr; omega
theorem sBxf_R (hg : gOk g) (p : Nat) : sBxf g (sRb g) p = sBxB g (g 8) p := by
  have ht := sTurns_le g
  refine Bool.eq_iff_iff.mpr ⟨fun h => ?_, fun h => ?_⟩
  · unfold sBxf at h
    rw [Bool.and_eq_true, Bool.and_eq_true] at h
    have hr := sRb_R h.1
    have hs := (sFs_iff _).mp h.2.2
    refine sBxB_t.mpr ⟨hr, of_decide_eq_true h.2.1, ?_⟩
    by_cases c0 : sTurnOf g p = 0
    · show sTP g p (sTurnOf g p) = p
      rw [c0, sTP_0]
    · have a := hs (sTurnOf g p) (by omega) (sTurnOf_lt g p)
      have b := sBox_min (g := g) (p := p) (t := 0) (by omega)
      rw [sTP_0] at b
      have c1 : ¬ sBox g p < p := fun z => a ⟨z, sRb_t (gR_box hg hr).1⟩
      omega
  · obtain ⟨hr, hw, hb⟩ := sBxB_t.mp h
    unfold sBxf
    rw [sRb_t hr, decide_eq_true hw, (sFs_iff _).mpr (fun u _ h2 z => by
      have := sBox_min (g := g) (p := p) (t := u) h2
      omega)]
    rfl
theorem sBoxes (hg : gOk g) : sBxc g (sRb g) = sSl g (g 8) 19683 := by
  show sCB (sBxf g (sRb g)) 19683 = sCB (sBxB g (g 8)) 19683
  rw [show sBxf g (sRb g) = sBxB g (g 8) from funext fun p => sBxf_R hg p]
theorem bs_bits (g : zg) (b : Nat) : ∀ k, k < 9 → decide ((nI (sBs g b)).toBitVec.toNat / 2 ^ k % 2 = 1) = sBst g b k := fun k hk => by
  have := sBs_lt g b
  rw [pk_tn (by omega), ← Nat.testBit_eq_decide_div_mod_eq]
  show (sFB (sBst g b) 9).testBit k = _
  rw [sFB_tb, decide_eq_true hk, Bool.true_and]
theorem sBI_9 (hg : gOk g) (c : sC) (b : Nat) : sSum (fun k => if sBst g b k = true then c.1 (9 * b + k) else 0) 9 = sBI g c b := sSum_mm hg (fun k hk => by
  refine if_neg (fun z => ?_)
  unfold sBst at z
  have := sCan_lt (Bool.and_eq_true_iff.mp z).1
  omega)
theorem k_andnot {a b k : Nat} (ha : a < 512) (hb : b < 512) (hk : k < 9) : decide ((nI a &&& (nI b ^^^ (-1))).toBitVec.toNat / 2 ^ k % 2 = 1) = (a.testBit k && !b.testBit k) := by
  rw [← Nat.testBit_eq_decide_div_mod_eq]
  show (nI a &&& (nI b ^^^ (-1))).toBitVec.getLsbD k = _
  rw [Int32.toBitVec_and, Int32.toBitVec_xor, BitVec.getLsbD_and, BitVec.getLsbD_xor]
  show ((nI a).toBitVec.toNat.testBit k && ((nI b).toBitVec.toNat.testBit k ^^ (BitVec.ofNat 32 4294967295).getLsbD k)) = _
  rw [pk_tn (by omega), pk_tn (by omega), (by decide +kernel : ∀ k, k < 9 → (BitVec.ofNat 32 4294967295).getLsbD k = true) k hk, Bool.xor_true]
end
section
variable {G : zG} {n : Nat} {I : zI} {L : zL} {q : zq} {g : zg} {c : sC} {fr : Nat → Nat} {nr : Nat} {rl : zrl} {ru : Option Nat} {nf : Nat} {fo : Nat → zfo} {en : Nat → Int32} {tx : Nat → Nat} {tn : Nat} {kp : Nat → Bool} {kc : Nat → sC} {wa : List zwt} {ro : List Int64} {t : Nat}
theorem w_like {x : Int32} (h : wB g c fr nr rl ru nf fo en tx tn kp kc wa ro t I L) : zC G (n + 300) 267 [.ref 40, .int x] I L (zR1 q) (wPo G (n + 300) 65 [.ref 0, .int x] t) := by
  obtain ⟨hM, hC⟩ := h
  refine zin0 rfl rfl rfl (b267_0 (w_lay hC (fun I1 C1 hL ho => ?_)))
  have M1 := wM_lo hM (fun o z => ho o (by omega)) (fun _ _ => rfl)
  have hg := hL.1.1
  have E : wE t (zup I1 0 34 0) L := wE_34 M1 C1 (by omega)
  refine k_goesOnL hL (fun p e hr hw => And.intro (fun z => absurd z (by decide)) (fun _ => ?_)) (fun z => And.intro (fun _ => b267_29 (b267_30 ⟨⟨_, rfl⟩, q, rfl, ?_⟩)) (fun z2 => absurd rfl z2))
  · refine k_boxOf hL (fun p' e' hr' hw' => b267_30 ⟨⟨_, rfl⟩, q, rfl, ?_⟩) (fun z => absurd (z p e (sR_31 hg hr) hr) (by omega))
    refine c_like M1.1.1 M1.1.2 (fun p2 e2 hr2 _ => ⟨?_, ⟨q, rfl⟩, E⟩) (fun z => absurd (z p e (sR_31 hg hr) hr) (by omega))
    rw [sR_nI hg hr' hr2 (e'.symm.trans e2)]
  · exact c_like M1.1.1 M1.1.2 (fun p2 e2 hr2 hw2 => absurd (z p2 e2 (sR_31 hg hr2) hr2) (by omega)) (fun _ => ⟨rfl, ⟨q, rfl⟩, E⟩)
theorem w_state {x : Int32} (h : wB g c fr nr rl ru nf fo en tx tn kp kc wa ro t I L) : zC G (n + 300) 269 [.ref 40, .int x] I L (zR1 q) (wPo G (n + 300) 68 [.ref 0, .int x] t) := by
  obtain ⟨hM, hC⟩ := h
  refine zin0 rfl rfl rfl (b269_0 (w_lay hC (fun I1 C1 hL ho => ?_)))
  have M1 := wM_lo hM (fun o z => ho o (by omega)) (fun _ _ => rfl)
  have hg := hL.1.1
  have E : wE t (zup I1 0 34 0) L := wE_34 M1 C1 (by omega)
  refine k_stateL hL (fun p e hr => ⟨⟨_, rfl⟩, q, rfl, ?_⟩) (fun z => ⟨⟨_, rfl⟩, q, rfl, ?_⟩)
  · refine c_state M1.1.1 M1.1.2 (fun p2 e2 hr2 => ⟨?_, ⟨q, rfl⟩, E⟩) (fun z => absurd hr (z p e (sR_31 hg hr)))
    rw [sR_nI hg hr hr2 (e.symm.trans e2)]
  · exact c_state M1.1.1 M1.1.2 (fun p2 e2 hr2 => absurd hr2 (z p2 e2 (sR_31 hg hr2))) (fun _ => ⟨rfl, ⟨q, rfl⟩, E⟩)
theorem wOk_Sn : wOk tSn := ⟨by decide, by decide, fun k => ⟨rfl, rfl, rfl, rfl, rfl, rfl⟩, fun k => ⟨rfl, rfl, rfl, rfl, rfl, rfl⟩, fun k => ⟨rfl, rfl, rfl, rfl⟩⟩
theorem wM_Sn {I' : zI} (h : wM g c fr nr rl ru nf fo en tx tn kp kc wa ro I L) (hf : zFr tSn I I') : wM g c fr nr rl ru nf fo en tx tn kp kc wa ro I' L := wM_t h hf wOk_Sn (fun s _ => hf 6 s rfl) (fun j c' _ z => mK_of z (zFr_row hf fun _ => rfl) (zFr_row hf fun _ => rfl) (zFr_row hf fun _ => rfl)) rfl (mC_of h.2.1.1 (zFr_row hf fun _ => rfl) (zFr_row hf fun _ => rfl) (hf 0 14 rfl) (hf 0 15 rfl) (hf 0 16 rfl)) h.2.1.2 (fun k hk => (hf 15 k rfl).trans (h.2.2.2.2.2.1 k hk)) (by
  unfold mRow
  rw [hf 0 33 rfl]
  exact h.2.2.2.2.2.2.2.2.2.1.1) h.2.2.2.2.2.2.2.2.2.1.2 ((hf 0 35 rfl).trans h.2.2.2.2.2.2.2.2.2.2)
theorem w_boxes (h : wB g c fr nr rl ru nf fo en tx tn kp kc wa ro t I L) : zC G (n + 300) 270 [.ref 40] I L (zR1 q) (wPo G (n + 300) 71 [.ref 0] t) := by
  obtain ⟨hM, hC⟩ := h
  refine zin0 rfl rfl rfl (b270_0 (w_lay hC (fun I1 C1 hL ho => k_boxCount hL ⟨⟨_, rfl⟩, q, rfl, ?_⟩)))
  have M1 := wM_lo hM (fun o z => ho o (by omega)) (fun _ _ => rfl)
  refine c_boxes M1.1.1 M1.1.2 (fun I2 _ hf => ⟨?_, ⟨q, rfl⟩, ⟨g, c, fr, nr, rl, ru, nf, fo, en, tx, tn, kp, kc, wa, ro, t, by omega, wM_Sn M1 hf, wC_hi C1 (hi_of (fun _ _ => rfl) hf) rfl⟩⟩)
  rw [sBoxes hL.1.1]
theorem w_shows {x : Int32} (h : wB g c fr nr rl ru nf fo en tx tn kp kc wa ro t I L) (ht : t < 2 ^ 29) : zC G (n + 300) 271 [.ref 40, .int x] I L (zR1 q) (wPo G (n + 300) 74 [.ref 0, .int x] t) := by
  obtain ⟨hM, hC⟩ := h
  have hFs := hC.2.2.2.2.2.2.1
  refine zin0 rfl rfl rfl (b271_0 (w_foeAt hFs (fun f e hf => b271_12 ?_) (fun z => ⟨⟨_, rfl⟩, q, rfl, ?_⟩)))
  · subst e
    refine w_lay hC (fun I1 C1 hL ho => ?_)
    have M1 := wM_lo hM (fun o z => ho o (by omega)) (fun _ _ => rfl)
    have hF1 := C1.2.2.2.2.2.2.1
    have hMf := M1.2.2.2.2.1
    refine k_countShown (kFb_f (by have := hFs.1; omega)) (hF1.2.2 f hf).1 hL (hF1.2.2 f hf).2 C1.2.2.2.2.2.2.2.2.2.2.2 (by omega) (fun I2 k2 o2 => ⟨⟨_, rfl⟩, _, rfl, ?_⟩)
    have M2 := wM_lo M1 (fun o z => o2 o (by omega) (by omega) (by omega)) (fun _ _ => rfl)
    have C2 := wC_play C1 (I' := I2) (L' := L) (fun o z => o2 o (by unfold wKeep at z; omega) (by unfold wKeep at z; omega) (by unfold wKeep at z; omega)) (kZ_of C1.1 (fun o z1 z2 => o2 o (by omega) (by omega) (by omega))) (kC_of C1.2.2.1 (o2 63 (by decide) (by decide) (by decide)) (o2 64 (by decide) (by decide) (by decide)) (fun k _ => by rw [o2 62 (by decide) (by decide) (by decide)])) (kEn_of C1.2.2.2.2.2.2.2.2.1 (o2 94 (by decide) (by decide) (by decide))) (kRow_of C1.2.2.2.2.2.2.2.2.2.2.1 (o2 96 (by decide) (by decide) (by decide)) rfl) k2
    have hMf2 := M2.2.2.2.2.1
    exact c_shows ⟨M2.1.1, M2.1.2, (hMf2.2.2 f hf).2⟩ hf hMf2.1 hMf2.2.1 (hMf2.2.2 f hf).1 (fun I3 _ h3 => ⟨rfl, ⟨_, rfl⟩, ⟨g, c, fr, nr, rl, ru, nf, fo, en, tx, tn, kp, kc, wa, ro, t + 1, by omega, wM_Sn M2 h3, wC_hi C2 (hi_of (fun _ _ => rfl) h3) rfl⟩⟩)
  · exact c_shows0 hM.2.2.2.2.1.1 hM.2.2.2.2.1.2.1 z ⟨rfl, ⟨q, rfl⟩, wE_34 hM hC (by omega)⟩
theorem w_beads {x y : Int32} (h : wB g c fr nr rl ru nf fo en tx tn kp kc wa ro t I L) : zC G (n + 300) 272 [.ref 40, .int x, .int y] I L (zR1 q) (wPo G (n + 300) 77 [.ref 0, .int x, .int y] t) := by
  obtain ⟨hM, hC⟩ := h
  refine zin0 rfl rfl rfl (b272_0 (w_lay hC (fun I1 C1 hL ho => ?_)))
  have M1 := wM_lo hM (fun o z => ho o (by omega)) (fun _ _ => rfl)
  have hg := hL.1.1
  have g8 := hg.2.2.2.2.2.2.2.2
  have E : wE t (zup I1 0 34 0) L := wE_34 M1 C1 (by omega)
  have no : (∀ p m, p < 2 ^ 31 → ¬ xMine g x y p m) → wPo G (n + 300) 77 [.ref 0, .int x, .int y] t (some (.int (-1))) I1 L (zR1 q) := fun z => ⟨⟨_, rfl⟩, q, rfl, c_beads M1.1.1 M1.1.2 M1.2.1.1 (fun p m hx => absurd hx (z p m (sR_31 hg hx.2.2.2.1))) (fun _ => ⟨rfl, ⟨q, rfl⟩, E⟩)⟩
  refine k_slotOf hL (fun p e hr hw => ?_) (fun z => ?_)
  · have sl1 := sl_lt hg (sB_box hg hr hw)
    have e1 : sSl g (g 8) (sBox g p) = sl g (sBox g p) := rfl
    refine k_kindOf hL (fun p' m hx => ?_) (fun z => ?_)
    · have ep : p' = p := sR_nI hg hx.2.2.2.1 hr (hx.1.symm.trans e)
      subst ep
      have hmm := sCan_lt hx.2.2.2.2.2
      have mm := sMM_pos hg
      have hml := sLeast_lt (b := sBox g p') hg (sLed_lt hg hmm (sTurnOf_lt g p'))
      have l31 : sLeast g (sBox g p') (sLed g m (sTurnOf g p')) < 2 ^ 31 := by omega
      refine And.intro (fun z => absurd z (nI_pos (by omega))) (fun _ => And.intro (fun _ => b272_38 ?_) (fun z => absurd (nI_pos' l31) z))
      rw [e1]
      refine k_isOpened (Or.inl ⟨rfl, rfl, rfl⟩) hg C1.2.2.1 (sB_box hg hr hw) ?_
      have fin : ∀ v : Int32, v = (if c.2.1 (sBox g p') = true then nI (c.1 (sAtB g p' m)) else -2) → wPo G (n + 300) 77 [.ref 0, .int x, .int y] t (some (.int v)) I1 L (zR1 q) := fun v hv => ⟨⟨_, rfl⟩, q, rfl, c_beads M1.1.1 M1.1.2 M1.2.1.1 (fun p2 m2 hx2 => ⟨by
        have e2 : p2 = p' := sR_nI hg hx2.2.2.2.1 hr (hx2.1.symm.trans e)
        have e3 : m2 = m := nI_inj hx2.2.2.1 hx.2.2.1 (hx2.2.1.symm.trans hx.2.1)
        rw [e2, e3, hv], ⟨q, rfl⟩, E⟩) (fun z => absurd ⟨e, hx.2.1, hx.2.2.1, hr, hw, hx.2.2.2.2.2⟩ (z p' m (sR_31 hg hr)))⟩
      refine zbo_eq (fun d => b272_62 (b272_64 (fin _ (by rw [if_neg (by rw [d]; decide)])))) (fun d => k_beadsOf (Or.inl ⟨rfl, rfl, rfl⟩) hg C1.2.2.1 (sB_box hg hr hw) (by omega) (b272_64 (fin _ (by rw [if_pos d]; rfl))))
    · refine And.intro (fun z2 => absurd z2 (nI_pos (by omega))) (fun _ => And.intro (fun z2 => absurd z2 (by decide)) (fun _ => b272_36 (no (fun p' m' hp' hx => z p' m' hp' ⟨hx.1, hx.2.1, hx.2.2.1, hx.2.2.2.1, by have := hx.2.2.2.2.1; omega, hx.2.2.2.2.2⟩))))
  · refine k_kindOf hL (fun p' m hx => And.intro (fun _ => b272_36 (no (fun p' m' hp' hx => absurd hx.2.2.2.2.1 (z p' hx.1 hp' hx.2.2.2.1)))) (fun z2 => absurd (by decide) z2)) (fun _ => And.intro (fun _ => b272_36 (no (fun p' m' hp' hx => absurd hx.2.2.2.2.1 (z p' hx.1 hp' hx.2.2.2.1)))) (fun z2 => absurd (by decide) z2))
end
