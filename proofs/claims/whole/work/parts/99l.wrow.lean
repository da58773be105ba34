-- ===== calls on both: seed, value, knows, odds, count =====
theorem sBL_9 {g : zg} (hg : gOk g) (p : Nat) : sBL g p 9 = sBL g p (sMM g) := by
  have mm := sMM_pos hg
  have more : ∀ d, sBL g p (sMM g + d) = sBL g p (sMM g) := by
    intro d
    induction d with
    | zero => rfl
    | succ d ih =>
      show sBL g p (sMM g + d + 1) = _
      rw [sBL, if_neg (fun z => by
        unfold sBst at z
        have := sCan_lt (Bool.and_eq_true_iff.mp z).1
        omega)]
      exact ih
  have := more (9 - sMM g)
  rw [show sMM g + (9 - sMM g) = 9 by omega] at this
  exact this
theorem cIn_open {g : zg} {c : sC} (h : cIn g c) {b : Nat} (hb : sInB c b ≠ 0) : c.2.1 b = true := by
  obtain ⟨k, hk, hk2⟩ := sSum_some 9 hb
  exact (h.2.2 b k hk hk2).1
section
variable {G : zG} {n : Nat} {I : zI} {L : zL} {q : zq} {g : zg} {c : sC} {fr : Nat → Nat} {nr : Nat} {rl : zrl} {ru : Option Nat} {nf : Nat} {fo : Nat → zfo} {en : Nat → Int32} {tx : Nat → Nat} {tn : Nat} {kp : Nat → Bool} {kc : Nat → sC} {wa : List zwt} {ro : List Int64} {t : Nat}
theorem wC_ro {ro' : List Int64} {I' : zI} {L' : zL} (h : wC g c fr nr rl ru nf fo en tx tn kp kc wa ro t I L) (ho : ∀ o, o ≠ 96 → I' o = I o) (r : kRow ro' I' L') : wC g c fr nr rl ru nf fo en tx tn kp kc wa ro' t I' L' := wC_play h (fun o z => ho o (by unfold wKeep at z; omega)) (kZ_of h.1 (fun o z1 z2 => ho o (by omega))) (kC_of h.2.2.1 (ho 63 (by decide)) (ho 64 (by decide)) (fun k _ => by rw [ho 62 (by decide)])) (kEn_of h.2.2.2.2.2.2.2.2.1 (ho 94 (by decide))) r (kMk_of h.2.2.2.2.2.2.2.2.2.2.2 (ho 89 (by decide)) (ho 91 (by decide)) (ho 92 (by decide)))
theorem wOk_T : wOk tT := ⟨by decide, by decide, fun k => ⟨rfl, rfl, rfl, rfl, rfl, rfl⟩, fun k => ⟨rfl, rfl, rfl, rfl, rfl, rfl⟩, fun k => ⟨rfl, rfl, rfl, rfl⟩⟩
theorem wM_T {ro' : List Int64} {I' : zI} {L' : zL} (h : wM g c fr nr rl ru nf fo en tx tn kp kc wa ro I L) (hf : zFr tT I I') (hL : L' 13 = L 13) (hro : mRow ro' I' L') (hl : ro'.length ≤ 32) : wM g c fr nr rl ru nf fo en tx tn kp kc wa ro' I' L' := wM_t h hf wOk_T (fun s _ => hf 6 s rfl) (fun j c' _ z => mK_of z (zFr_row hf fun _ => rfl) (zFr_row hf fun _ => rfl) (zFr_row hf fun _ => rfl)) hL (mC_of h.2.1.1 (zFr_row hf fun _ => rfl) (zFr_row hf fun _ => rfl) (hf 0 14 rfl) (hf 0 15 rfl) (hf 0 16 rfl)) h.2.1.2 (fun k hk => (hf 15 k rfl).trans (h.2.2.2.2.2.1 k hk)) hro hl ((hf 0 35 rfl).trans h.2.2.2.2.2.2.2.2.2.2)
/-- a row told by both, nothing else changed -/
theorem wE_T {ro' : List Int64} {t' : Nat} {I2 : zI} {L1 L2 : zL} (M1 : wM g c fr nr rl ru nf fo en tx tn kp kc wa ro I L1) (C1 : wC g c fr nr rl ru nf fo en tx tn kp kc wa ro' t' I L1) (ht : t' ≤ t + 101) (hf : zFr tT I I2) (hL : ∀ o, o ≠ 17 → L2 o = L1 o) (hro : mRow ro' I2 L2) : wE t I2 L2 := ⟨g, c, fr, nr, rl, ru, nf, fo, en, tx, tn, kp, kc, wa, ro', t', ht, wM_T M1 hf (hL 13 (by decide)) hro C1.2.2.2.2.2.2.2.2.2.2.1.2.1, wC_hi C1 (hi_of (fun _ _ => rfl) hf) (hL 97 (by decide))⟩
theorem w_seed {x : Int32} (h : wB g c fr nr rl ru nf fo en tx tn kp kc wa ro t I L) : zC G (n + 300) 266 [.ref 40, .int x] I L (zR1 q) (wPo G (n + 300) 64 [.ref 0, .int x] t) := by
  obtain ⟨hM, hC⟩ := h
  have e : I 62 4 = c.2.2.2.2 := hC.2.2.1.2.2.2.2
  refine zin0 rfl rfl rfl (b266_0 ?_)
  have k2 := kC_R (r := x) (by decide) (by decide) hC.2.2.1
  have f2 : zFr (tCh 62 63 64) I (zup I 62 4 x) := tCh_up (zFr_0 _ _) (Or.inr (Or.inr ⟨rfl, Or.inr (Or.inr rfl)⟩))
  have M2 := wM_lo hM (I' := zup I 62 4 x) (L' := L) (fun o z => ch_row f2 (by omega) (by omega) (by omega)) (fun _ _ => rfl)
  have fin : wPo G (n + 300) 64 [.ref 0, .int x] t (some (.int (I 62 4))) (zup I 62 4 x) L (zR1 q) := ⟨⟨_, rfl⟩, q, rfl, c_seed M2.2.1.1 (fun I3 mc3 _ f3 => ⟨by rw [e], ⟨q, rfl⟩, wE_C hM hC k2 f2 (by omega) mc3 f3 (cIn_R hM.2.1.2 x)⟩)⟩
  exact fin
theorem w_value {x : Int32} (h : wB g c fr nr rl ru nf fo en tx tn kp kc wa ro t I L) : zC G (n + 300) 268 [.ref 40, .int x] I L (zR1 q) (wPo G (n + 300) 66 [.ref 0, .int x] t) := by
  obtain ⟨hM, hC⟩ := h
  refine zin0 rfl rfl rfl (b268_0 (w_lay hC (fun I1 C1 hL ho => ?_)))
  have M1 := wM_lo hM (fun o z => ho o (by omega)) (fun _ _ => rfl)
  have hg := hL.1.1
  refine k_goesOnL hL (fun p e hr hw => And.intro (fun _ => b268_20 ?_) (fun z => absurd z (by decide))) (fun z => And.intro (fun z2 => absurd rfl z2) (fun _ => ⟨⟨_, rfl⟩, q, rfl, c_value M1.1.1 M1.1.2 (fun p e hr hw => absurd (z p e (sR_31 hg hr) hr) (by omega)) (fun _ => ⟨rfl, ⟨q, rfl⟩, wE_34 M1 C1 (by omega)⟩)⟩))
  subst e
  have hp1 := sR_lt hg hr
  have bsl := sBs_lt g p
  have key : ∀ (j i : Nat) (J : zI) (K : zL), i + j = 9 → kRow (sBL g p i) J K → (∀ o, o ≠ 96 → J o = I1 o) → (∀ o, o ≠ 97 → K o = L o) → zQ G 268 (n + 299) (wPo G (n + 300) 66 [.ref 0, .int (nI p)] t) 38 [some (.ref 40), some (.int (nI p)), some (.int (nI (sBs g p))), some (.int (nI i))] [] J K (zR1 q) := by
    intro j
    induction j with
    | zero =>
      intro i J K hi hr1 jo ko
      have e9 : i = 9 := by omega
      subst e9
      refine b268_38 (pk_le 9 9 (fun _ => b268_67 ?_) (fun z => absurd z (by omega)) rfl rfl (by omega) (by omega))
      rw [sBL_9 hg] at hr1
      have C2 := wC_ro C1 jo hr1
      have M2 := wM_lo M1 (I' := J) (L' := K) (fun o z => jo o (by omega)) (fun o z => ko o (by omega))
      refine k_worthOf hp1 ?_
      rw [jo 48 (by decide), (kLay_R hL hr hw).2.2.1]
      refine ⟨⟨_, rfl⟩, q, rfl, c_value M2.1.1 M2.1.2 (fun p2 e2 hr2 _ I3 L3 m3 _ f3 l3 => ?_) (fun z => absurd (z p rfl (sR_31 hg hr) hr) (by omega))⟩
      rw [sR_nI hg hr2 hr e2.symm] at m3 ⊢
      exact ⟨rfl, ⟨q, rfl⟩, wE_T M2 C2 (by omega) f3 l3 m3⟩
    | succ j ih =>
      intro i J K hi hr1 jo ko
      have hi9 : i < 9 := by omega
      have hlen := sBL_len g p i
      refine b268_38 (pk_le 9 i (fun z => absurd z (by omega)) (fun _ => k_holds rfl (by omega) rfl (by omega) ?_) rfl rfl (by omega) (by omega))
      rw [sBs_tb hg]
      refine zbo_eq (fun d => b268_61 ?_) (fun d => k_add hr1 (by omega) (fun r2 => b268_61 ?_))
      · have qq := ih (i + 1) J K (by omega) (by rw [sBL, if_neg (by rw [d]; decide)]; exact hr1) jo ko
        rw [← nI_1] at qq
        exact qq
      · have qq := ih (i + 1) _ _ (by omega) (by rw [sBL, if_pos d]; exact r2) (fun o z => by rw [zup_ne z]; exact jo o z) (fun o z => by rw [zup_ne z]; exact ko o z)
        rw [← nI_1] at qq
        exact qq
  exact k_bestL hL hr hw (k_begin (fun r0 => key 9 0 _ _ (by omega) r0 (fun o z => zup_ne z) (fun _ _ => rfl)))
theorem w_knows (h : wB g c fr nr rl ru nf fo en tx tn kp kc wa ro t I L) : zC G (n + 300) 282 [.ref 40] I L (zR1 q) (wPo G (n + 300) 107 [.ref 0] t) := by
  obtain ⟨hM, hC⟩ := h
  refine zin0 rfl rfl rfl (b282_0 (w_lay hC (fun I1 C1 hL ho => ?_)))
  have M1 := wM_lo hM (fun o z => ho o (by omega)) (fun _ _ => rfl)
  have hg := hL.1.1
  have hin := M1.2.1.2
  have key : ∀ (j b : Nat) (v5 v6 : Option Value), b + j = 19683 → zQ G 282 (n + 299) (wPo G (n + 300) 107 [.ref 0] t) 16 [some (.ref 40), some (.int (nI (sCB (fun b => sKn g c b && decide (sBI g c b = sInB c b)) b))), some (.int (nI (sCB (fun b => sKn g c b && (!decide (sBI g c b = sInB c b) && decide (0 < sBI g c b))) b))), some (.int (nI (sCB (fun b => sKn g c b && (!decide (sBI g c b = sInB c b) && !decide (0 < sBI g c b))) b))), some (.int (nI (sl g b))), v5, v6] [] I1 L (zR1 q) := by
    intro j
    induction j with
    | zero =>
      intro b v5 v6 hb
      have eb : b = 19683 := by omega
      subst eb
      have sn := sBxB_n hg hg.2.2.2.2.2.2.2.2
      have sn2 : sl g 19683 ≤ 2423 := sn
      refine b282_16 (k_boxCount hL (pk_le (sl g 19683) (sl g 19683) (fun _ => b282_109 ?_) (fun z => absurd z (by omega)) rfl rfl (by omega) (by omega)))
      have fin : ∀ (J : zI) (K : zL), kRow [(nI (sKS g c)).toInt64, (nI (sKN g c)).toInt64] J K → (∀ o, o ≠ 96 → J o = I1 o) → (∀ o, o ≠ 97 → K o = L o) → wPo G (n + 300) 107 [.ref 0] t (some (.int (nI (sKA g c)))) J K (zR1 q) := fun J K r2 jo ko => by
        have C2 := wC_ro C1 jo r2
        have M2 := wM_lo M1 (I' := J) (L' := K) (fun o z => jo o (by omega)) (fun o z => ko o (by omega))
        exact ⟨⟨_, rfl⟩, q, rfl, c_knows M2.1.1 M2.1.2 hin M2.2.1.1 (fun I3 L3 m3 _ f3 l3 => ⟨rfl, ⟨q, rfl⟩, wE_T M2 C2 (by omega) f3 l3 m3⟩)⟩
      exact k_begin (fun r0 => k_add r0 (by show 0 < 32; decide) (fun r1 => k_add r1 (by show 1 < 32; decide) (fun r2 => fin _ _ r2 (fun o z => by rw [zup_ne z, zup_ne z, zup_ne z]) (fun o z => by rw [zup_ne z, zup_ne z]))))
    | succ j ih =>
      intro b v5 v6 hb
      have es : sl g (b + 1) = sl g b + (if sB g b = true then 1 else 0) := rfl
      by_cases hsb : sB g b = true
      · have hbx := sBxB_t.mp hsb
        have sl1 := sl_lt hg hsb
        have g8 := hg.2.2.2.2.2.2.2.2
        have ib := sInB_le hin.1 (b := b) (by omega)
        have bi := sBI_le (c := c) (b := b) hg
        have qq := fun v5 v6 => ih (b + 1) v5 v6 (by omega)
        have ekn : sInB c b ≠ 0 → sKn g c b = true := fun z => by
          unfold sKn
          rw [cIn_open hin z, decide_eq_true z]
          rfl
        rw [sCB, sCB, sCB, es, if_pos hsb] at qq
        refine b282_16 (k_boxCount hL (pk_le (sN g) (sl g b) (fun z => absurd z (by omega)) (fun _ => k_allOf (Or.inl ⟨rfl, rfl, rfl⟩) hg C1.2.2.1 hsb (k_boxAt hL hsb (k_bestL hL hbx.1 (by rw [hbx.2.1]; omega) (k_sumOf (Or.inl ⟨rfl, rfl, rfl⟩) hg C1.2.2.1 hsb (bs_bits g b) ?_)))) rfl rfl (by omega) (by omega)))
        rw [sBI_9 hg]
        refine pk_le (sInB c b) 0 (fun i0 => b282_84 (pk_le (sBI g c b) 0 (fun _ => b282_95 (pk_le (sInB c b) 0 (fun _ => b282_103 ?_) (fun z => absurd z (by omega)) rfl rfl (by omega) (by omega))) (fun z => absurd z (by omega)) rfl rfl (by omega) (by omega))) (fun i0 => ?_) rfl rfl (by omega) (by omega)
        · have kf : sKn g c b = false := by
            unfold sKn
            rw [decide_eq_false (by omega), Bool.and_false]
          have q2 := qq (some (.int (nI (sInB c b)))) (some (.int (nI (sBI g c b))))
          rw [if_neg (by rw [kf, Bool.false_and]; decide), if_neg (by rw [kf, Bool.false_and]; decide), if_neg (by rw [kf, Bool.false_and]; decide), Nat.add_zero, Nat.add_zero, Nat.add_zero, ← nI_1] at q2
          exact q2
        · have kt := ekn (by omega)
          have q2 := qq (some (.int (nI (sInB c b)))) (some (.int (nI (sBI g c b))))
          refine pk_ne (sBI g c b) (sInB c b) (fun z => b282_84 (pk_le (sBI g c b) 0 (fun b0 => b282_95 (pk_le (sInB c b) 0 (fun z => absurd z (by omega)) (fun _ => b282_103 ?_) rfl rfl (by omega) (by omega))) (fun b0 => b282_103 ?_) rfl rfl (by omega) (by omega))) (fun z => b282_103 ?_) rfl rfl (by omega) (by omega)
          · rw [if_neg (by rw [kt, decide_eq_false z]; simp), if_neg (by rw [kt, decide_eq_false z, decide_eq_false (show ¬ 0 < sBI g c b by omega)]; simp), if_pos (by rw [kt, decide_eq_false z, decide_eq_false (show ¬ 0 < sBI g c b by omega)]; rfl), Nat.add_zero, Nat.add_zero, ← nI_1, ← nI_1] at q2
            exact q2
          · rw [if_neg (by rw [kt, decide_eq_false z]; simp), if_pos (by rw [kt, decide_eq_false z, decide_eq_true (show 0 < sBI g c b by omega)]; rfl), if_neg (by rw [kt, decide_eq_false z, decide_eq_true (show 0 < sBI g c b by omega)]; simp), Nat.add_zero, Nat.add_zero, ← nI_1, ← nI_1] at q2
            exact q2
          · rw [if_pos (by rw [kt, decide_eq_true z]; rfl), if_neg (by rw [kt, decide_eq_true z]; simp), if_neg (by rw [kt, decide_eq_true z]; simp), Nat.add_zero, Nat.add_zero, ← nI_1, ← nI_1] at q2
            exact q2
      · have kf : sKn g c b = false := by
          unfold sKn
          cases e : c.2.1 b with
          | false => rfl
          | true => exact absurd (cIn_sB hin e) hsb
        have q2 := ih (b + 1) v5 v6 (by omega)
        rw [sCB, sCB, sCB, es, if_neg hsb, if_neg (by rw [kf, Bool.false_and]; decide), if_neg (by rw [kf, Bool.false_and]; decide), if_neg (by rw [kf, Bool.false_and]; decide), Nat.add_zero, Nat.add_zero, Nat.add_zero, Nat.add_zero] at q2
        exact q2
  exact key 19683 0 none none (by omega)
end
