-- ===== calls on both: keep, again, join =====
theorem tKP_no {o k : Nat} (h : ¬ (o = 29 ∨ o = 30 ∨ o = 31 ∨ o = 32 ∨ (o = 0 ∧ k = 34))) : tKP o k = false := by
  cases e : tKP o k with
  | false => rfl
  | true =>
    unfold tKP tK at e
    simp only [Bool.or_eq_true, Bool.and_eq_true, Nat.beq_eq] at e
    omega
theorem kCp_k {i : Nat} (h : i < 3) : kCp (98 + 3 * i) (99 + 3 * i) (100 + 3 * i) 62 63 64 ∧ kCp 62 63 64 (98 + 3 * i) (99 + 3 * i) (100 + 3 * i) ∧ kCo (98 + 3 * i) (99 + 3 * i) (100 + 3 * i) := by
  have c : i = 0 ∨ i = 1 ∨ i = 2 := by omega
  unfold kCp kCo
  rcases c with rfl | rfl | rfl <;> exact ⟨by omega, by omega, by omega⟩
theorem sJb_in {g : zg} (hg : gOk g) {ck : sC} (hk : cIn g ck) {b : Nat} {s : sC × Nat} (h : cIn g s.1) (ho : s.1.2.1 b = true) (hb : ck.2.1 b = true) : ∀ m, m ≤ 9 → cIn g (sJb ck b s m).1 ∧ (sJb ck b s m).1.2.1 b = true := by
  intro m
  induction m with
  | zero => intro _; exact ⟨h, ho⟩
  | succ m ih =>
    intro hm
    obtain ⟨a1, a2⟩ := ih (by omega)
    rw [sJb]
    refine ⟨?_, a2⟩
    by_cases z : ck.1 (9 * b + m) = 0
    · show cIn g (cGive (sJb ck b s m).1 (9 * b + m) (ck.1 (9 * b + m)))
      rw [z, cGive_0]
      exact a1
    · exact cIn_give hg _ a1 (by omega) a2 (hk.2.2 b m (by omega) z).2
theorem sJn_in {g : zg} (hg : gOk g) {ck c : sC} (hk : cIn g ck) (h : cIn g c) : ∀ b, cIn g (sJn ck c b).1 := by
  intro b
  induction b with
  | zero => exact h
  | succ b ih =>
    rw [sJn]
    by_cases z : ck.2.1 b = true
    · rw [if_pos z]
      have hb := hk.2.1 b z
      exact (sJb_in hg hk (s := (cSetOp (sJn ck c b).1 b true, (sJn ck c b).2)) (cIn_opn ih hb.1 hb.2.1 hb.2.2) fup_s z 9 (Nat.le_refl _)).1
    · rw [if_neg z]
      exact ih
section
variable {G : zG} {n : Nat} {I : zI} {L : zL} {R : zR} {q : zq} {post : zPo} {g : zg} {c : sC} {fr : Nat → Nat} {nr : Nat} {rl : zrl} {ru : Option Nat} {nf : Nat} {fo : Nat → zfo} {en : Nat → Int32} {tx : Nat → Nat} {tn : Nat} {kp : Nat → Bool} {kc : Nat → sC} {wa : List zwt} {ro : List Int64} {t : Nat}
theorem w_keep {x : Int32} (h : wB g c fr nr rl ru nf fo en tx tn kp kc wa ro t I L) : zC G (n + 300) 287 [.ref 40, .int x] I L (zR1 q) (wPo G (n + 300) 112 [.ref 0, .int x] t) := by
  obtain ⟨hM, hC⟩ := h
  have hg := hM.1.1.1
  have hin := hM.2.1.2
  have no : xOut x 3 → zQ G 287 (n + 299) (wPo G (n + 300) 112 [.ref 0, .int x] t) 13 [some (.ref 40), some (.int x)] [] I L (zR1 q) := fun z => b287_13 (And.intro rfl ⟨⟨_, rfl⟩, q, rfl, c_keep hM.2.1.1 (fun i e hi => absurd z (xOut_no hi (by decide) e)) (fun _ => ⟨rfl, ⟨q, rfl⟩, wE_34 hM hC (by omega)⟩)⟩)
  refine zin0 rfl rfl rfl (b287_0 ?_)
  rcases pk_ix x (n := 3) (by decide) with c0 | c0 | ⟨i, hi, rfl⟩
  · exact And.intro (fun _ => no (.inl c0)) (fun z => absurd c0 z)
  · exact And.intro (fun z => no (.inl z)) (fun z => And.intro (fun w => absurd (Int32.lt_of_le_of_lt c0 w) (fun z => Int32.lt_irrefl z)) (fun _ => no (.inr c0)))
  refine And.intro (fun z => absurd z (nI_pos (by omega))) (fun _ => pk_lt i 3 (fun _ => b287_15x ?_) (fun z => absurd z (by omega)) rfl rfl (by omega) (by omega))
  have e : zR1 q 68 (nI i).toNatClampNeg = some (98 + 3 * i) := by
    rw [nI_clamp (by omega)]
    exact zR_kept i hi
  have vi : vp_in (nI i) 3 := vp_in_nI hi (by decide)
  obtain ⟨p1, p2, p3⟩ := kCp_k hi
  have cp := fun post' hp => k_copyFrom (G := G) (n := n + 297) (I := I) (L := L) (q := q) (post := post') p1 hg hC.2.2.1 hp
  have fin : ∀ I1 : zI, kC g c (98 + 3 * i) (99 + 3 * i) (100 + 3 * i) I1 → zFr (tCh (98 + 3 * i) (99 + 3 * i) (100 + 3 * i)) I I1 → wPo G (n + 300) 112 [.ref 0, .int (nI i)] t (some (.int 1)) (zup I1 (98 + 3 * i) 5 1) L (zR1 q) := fun I1 kc1 f1 => by
    obtain ⟨I2, hI2⟩ : ∃ I2 : zI, I2 = zup I1 (98 + 3 * i) 5 1 := ⟨_, rfl⟩
    rw [← hI2]
    have o1 : ∀ o, ¬ (o = 98 + 3 * i ∨ o = 99 + 3 * i ∨ o = 100 + 3 * i) → I2 o = I o := fun o z => by rw [hI2, zup_ne (by omega)]; exact ch_row f1 (by omega) (by omega) (by omega)
    have ho : ∀ o, ¬ (98 ≤ o ∧ o ≤ 106) → I2 o = I o := fun o z => o1 o (by omega)
    have k2 : kKp g (fup kp i true) (fup kc i c) I2 := fun j hj => by
      by_cases d : j = i
      · subst d
        rw [fup_s, fup_s]
        exact ⟨by rw [hI2, zup_self]; rfl, fun _ => kC_of kc1 (by rw [hI2, zup_ne (by omega)]) (by rw [hI2, zup_ne (by omega)]) (fun k hk => by rw [hI2, zup_k (by omega)])⟩
      · rw [fup_n d, fup_n d]
        obtain ⟨a1, a2⟩ := hC.2.2.2.1 j hj
        exact ⟨by rw [o1 _ (by omega)]; exact a1, fun z => kC_of (a2 z) (o1 _ (by omega)) (o1 _ (by omega)) (fun k _ => by rw [o1 _ (by omega)])⟩
    have C2 : wC g c fr nr rl ru nf fo en tx tn ((fup kp i true)) ((fup kc i c)) wa ro t I2 L := ⟨kZ_of hC.1 (fun o z1 z2 => ho o (by omega)), ⟨kD_of hC.2.1.1 (ho 43 (by omega)), kTx_of hC.2.1.2 (ho 41 (by omega)) (ho 42 (by omega))⟩, kC_of hC.2.2.1 (ho 63 (by omega)) (ho 64 (by omega)) (fun k _ => by rw [ho 62 (by omega)]), k2, kFr_of hC.2.2.2.2.1 (ho 69 (by omega)), kRs_of hC.2.2.2.2.2.1 (by rw [ho 40 (by omega)]) (by rw [ho 40 (by omega)]) (fun o z1 z2 => ho o (by omega)), kFs_of hC.2.2.2.2.2.2.1 (by rw [ho 40 (by omega)]) (fun o z => ho o (by omega)), (fun k hk => by rw [ho 77 (by omega), ho 84 (by omega)]; exact hC.2.2.2.2.2.2.2.1 k hk), kEn_of hC.2.2.2.2.2.2.2.2.1 (ho 94 (by omega)), kWa_of hC.2.2.2.2.2.2.2.2.2.1 (by rw [ho 40 (by omega)]) (ho 95 (by omega)), kRow_of hC.2.2.2.2.2.2.2.2.2.2.1 (ho 96 (by omega)) rfl, kMk_of hC.2.2.2.2.2.2.2.2.2.2.2 (ho 89 (by omega)) (ho 91 (by omega)) (ho 92 (by omega))⟩
    have M2 := wM_lo hM (I' := I2) (L' := L) (fun o z => ho o (by omega)) (fun _ _ => rfl)
    refine ⟨⟨_, rfl⟩, q, rfl, c_keep M2.2.1.1 (fun i2 e2 hi2 I3 m3 mo3 e29 o29 f3 => ?_) (fun z => absurd z (xOut_no hi (by decide) rfl))⟩
    have ei : i2 = i := (nI_inj (by omega) (by omega) e2).symm
    subst ei
    have hf : ∀ o k, ¬ (o = 29 ∨ o = 30 ∨ o = 31 ∨ o = 32 ∨ (o = 0 ∧ k = 34)) → I3 o k = I2 o k := fun o k z => f3 o k (tKP_no z)
    have M3 : wM g c fr nr rl ru nf fo en tx tn ((fup kp i2 true)) ((fup kc i2 c)) wa ro I3 L := ⟨⟨⟨M2.1.1.1, fun k z => (hf 0 k (by omega)).trans (M2.1.1.2 k z)⟩, mPos_of M2.1.2 (funext fun k => hf 1 k (by omega)) (funext fun k => hf 2 k (by omega)) (funext fun k => hf 3 k (by omega))⟩, ⟨mC_of M2.2.1.1 (funext fun k => hf 5 k (by omega)) (funext fun k => hf 4 k (by omega)) (hf 0 14 (by omega)) (hf 0 15 (by omega)) (hf 0 16 (by omega)), M2.2.1.2⟩, (fun s hs => ⟨(hf 6 s (by omega)).trans (M2.2.2.1 s hs).1, (M2.2.2.1 s hs).2⟩), mRl_of M2.2.2.2.1 (hf 0 18 (by omega)) (hf 0 22 (by omega)) (funext fun k => hf 7 k (by omega)) (funext fun k => hf 8 k (by omega)) (funext fun k => hf 9 k (by omega)), mFo_fr M2.2.2.2.2.1 (hf 0 23 (by omega)) (funext fun k => hf 10 k (by omega)) (funext fun k => hf 11 k (by omega)) (funext fun k => hf 12 k (by omega)) (funext fun k => hf 14 k (by omega)) rfl, (fun k hk => (hf 15 k (by omega)).trans (M2.2.2.2.2.2.1 k hk)), mTx_fr M2.2.2.2.2.2.2.1 (hf 0 31 (by omega)) (funext fun k => hf 16 k (by omega)), ⟨fun j hj => by
      by_cases d : j = i2
      · subst d
        rw [fup_s]
        exact e29
      · rw [fup_n d, o29 j d]
        exact M2.2.2.2.2.2.2.2.1.1 j hj, fun j hj z => by
      by_cases d : j = i2
      · subst d
        rw [fup_s]
        exact ⟨m3, hin⟩
      · rw [fup_n d] at z ⊢
        obtain ⟨a1, a2⟩ := M2.2.2.2.2.2.2.2.1.2 j hj z
        exact ⟨mo3 j _ (by omega) d a1, a2⟩⟩, mWa_of M2.2.2.2.2.2.2.2.2.1 (hf 0 66 (by omega)) (funext fun k => hf 36 k (by omega)) (funext fun k => hf 37 k (by omega)) (funext fun k => hf 38 k (by omega)) (funext fun k => hf 39 k (by omega)), ⟨mRow_fr M2.2.2.2.2.2.2.2.2.2.1.1 (hf 0 33 (by omega)) rfl, M2.2.2.2.2.2.2.2.2.2.1.2⟩, (hf 0 35 (by omega)).trans M2.2.2.2.2.2.2.2.2.2.2⟩
    exact ⟨rfl, ⟨q, rfl⟩, ⟨g, c, fr, nr, rl, ru, nf, fo, en, tx, _, _, _, wa, ro, t, by omega, M3, wC_hi C2 (fun o z => funext fun k => hf o k (by omega)) rfl⟩⟩
  show zck ("BoxesWithBeads$Chest" == zcn 1 && Nat.blt 1 zncl) (vp_in (nI i) 3 ∧ _)
  refine zck_t zs_chest (And.intro vi ?_)
  rw [e]
  have c3 : i = 0 ∨ i = 1 ∨ i = 2 := by omega
  rcases c3 with rfl | rfl | rfl <;> (
    refine cp _ (fun I1 kc1 f1 => ?_)
    show zck ("BoxesWithBeads$Chest" == zcn 1 && Nat.blt 1 zncl) (vp_in _ 3 ∧ _)
    refine zck_t zs_chest (And.intro vi ?_)
    rw [e]
    exact And.intro ⟨rfl, rfl⟩ (And.intro rfl (fin I1 kc1 f1)))
theorem w_again {x : Int32} (h : wB g c fr nr rl ru nf fo en tx tn kp kc wa ro t I L) : zC G (n + 300) 288 [.ref 40, .int x] I L (zR1 q) (wPo G (n + 300) 113 [.ref 0, .int x] t) := by
  obtain ⟨hM, hC⟩ := h
  have hg := hM.1.1.1
  have hK := hM.2.2.2.2.2.2.2.1
  refine zin0 rfl rfl rfl (b288_0 (w_isKept hC.2.2.2.1 (fun i ex hi hk => And.intro (fun _ => b288_10x ?_) (fun z => absurd z (by decide))) (fun z => And.intro (fun w => absurd rfl w) (fun _ => And.intro rfl ⟨⟨_, rfl⟩, q, rfl, c_again hK.1 (fun i hi hk => (hK.2 i hi hk).1) (fun i e hi hk => absurd hk (by rw [z i e hi]; decide)) (fun _ => ⟨rfl, ⟨q, rfl⟩, wE_34 hM hC (by omega)⟩)⟩))))
  subst ex
  have e : zR1 q 68 (nI i).toNatClampNeg = some (98 + 3 * i) := by
    rw [nI_clamp (by omega)]
    exact zR_kept i hi
  have vi : vp_in (nI i) 3 := vp_in_nI hi (by decide)
  obtain ⟨p1, p2, p3⟩ := kCp_k hi
  have cp := fun post' hp => k_copyFrom (G := G) (n := n + 297) (I := I) (L := L) (q := q) (post := post') p2 hg ((hC.2.2.2.1 i hi).2 hk) hp
  have fin : ∀ I1 : zI, kC g (kc i) 62 63 64 I1 → zFr (tCh 62 63 64) I I1 → wPo G (n + 300) 113 [.ref 0, .int (nI i)] t (some (.int 1)) I1 L (zR1 q) := fun I1 kc1 f1 => by
    have M1 := wM_lo hM (I' := I1) (L' := L) (fun o z => ch_row f1 (by omega) (by omega) (by omega)) (fun _ _ => rfl)
    have hK1 := M1.2.2.2.2.2.2.2.1
    refine ⟨⟨_, rfl⟩, q, rfl, c_again hK1.1 (fun i hi hk => (hK1.2 i hi hk).1) (fun i2 e2 hi2 hk2 I3 mc3 f3 => ?_) (fun z => absurd hk (by rw [z i rfl hi]; decide))⟩
    have ei : i2 = i := (nI_inj (by omega) (by omega) e2).symm
    subst ei
    exact ⟨rfl, ⟨q, rfl⟩, wE_C hM hC kc1 f1 (by omega) mc3 f3 (hK.2 i2 hi hk).2⟩
  show zck ("BoxesWithBeads$Chest" == zcn 1 && Nat.blt 1 zncl) (vp_in (nI i) 3 ∧ _)
  refine zck_t zs_chest (And.intro vi ?_)
  rw [e]
  have c3 : i = 0 ∨ i = 1 ∨ i = 2 := by omega
  rcases c3 with rfl | rfl | rfl <;> exact cp _ (fun I1 kc1 f1 => And.intro rfl (fin I1 kc1 f1))
theorem w_join {x : Int32} (h : wB g c fr nr rl ru nf fo en tx tn kp kc wa ro t I L) : zC G (n + 300) 289 [.ref 40, .int x] I L (zR1 q) (wPo G (n + 300) 114 [.ref 0, .int x] t) := by
  obtain ⟨hM, hC⟩ := h
  have hg := hM.1.1.1
  have hin := hM.2.1.2
  have hK := hM.2.2.2.2.2.2.2.1
  refine zin0 rfl rfl rfl (b289_0 (w_isKept hC.2.2.2.1 (fun i ex hi hk => And.intro (fun _ => b289_10 ?_) (fun z => absurd z (by decide))) (fun z => And.intro (fun w => absurd rfl w) (fun _ => ⟨⟨_, rfl⟩, q, rfl, c_join hin.1 hM.2.1.1 hM.2.2.2.2.2.2.2.2.2.2 hK.1 (fun i hi hk => ⟨(hK.2 i hi hk).1, (hK.2 i hi hk).2.1⟩) (fun i e hi hk => absurd hk (by rw [z i e hi]; decide)) (fun _ => ⟨rfl, ⟨q, rfl⟩, wE_34 hM hC (by omega)⟩)⟩))))
  subst ex
  have hik := (hK.2 i hi hk).2
  have e : zR1 q 68 (nI i).toNatClampNeg = some (98 + 3 * i) := by
    rw [nI_clamp (by omega)]
    exact zR_kept i hi
  have vi : vp_in (nI i) 3 := vp_in_nI hi (by decide)
  obtain ⟨p1, p2, p3⟩ := kCp_k hi
  refine w_lay hC (fun I1 C1 hL ho => ?_)
  have M1 := wM_lo hM (fun o z => ho o (by omega)) (fun _ _ => rfl)
  have fin : ∀ J : zI, kC g (sJn (kc i) c 19683).1 62 63 64 J → zFr (tCh 62 63 64) I1 J → wPo G (n + 300) 114 [.ref 0, .int (nI i)] t (some (.int (nI (sJn (kc i) c 19683).2))) J L (zR1 q) := fun J kcj fj => by
    have M2 := wM_lo M1 (I' := J) (L' := L) (fun o z => ch_row fj (by omega) (by omega) (by omega)) (fun _ _ => rfl)
    have hK2 := M2.2.2.2.2.2.2.2.1
    refine ⟨⟨_, rfl⟩, q, rfl, c_join hin.1 M2.2.1.1 M2.2.2.2.2.2.2.2.2.2.2 hK2.1 (fun i hi hk => ⟨(hK2.2 i hi hk).1, (hK2.2 i hi hk).2.1⟩) (fun i2 e2 hi2 hk2 I3 mc3 f3 => ?_) (fun z => absurd hk (by rw [z i rfl hi]; decide))⟩
    have ei : i2 = i := (nI_inj (by omega) (by omega) e2).symm
    subst ei
    exact ⟨rfl, ⟨q, rfl⟩, wE_C M1 C1 kcj fj (by omega) mc3 f3 (sJn_in hg hik hin 19683)⟩
  have key : ∀ (j b : Nat) (J : zI) (v4 : Option Value), b + j = 19683 → kC g (sJn (kc i) c b).1 62 63 64 J → zFr (tCh 62 63 64) I1 J → zQ G 289 (n + 299) (wPo G (n + 300) 114 [.ref 0, .int (nI i)] t) 21 [some (.ref 40), some (.int (nI i)), some (.int (nI (sJn (kc i) c b).2)), some (.int (nI (sl g b))), v4] [] J L (zR1 q) := by
    intro j
    induction j with
    | zero =>
      intro b J v4 hb kcj fj
      have eb : b = 19683 := by omega
      subst eb
      have sn := sBxB_n hg hg.2.2.2.2.2.2.2.2
      have sn2 : sl g 19683 ≤ 2423 := sn
      have hLJ : kLay g J := kLay_of hL (fun o z1 z2 => ch_row fj (by omega) (by omega) (by omega))
      exact b289_21x (k_boxCount hLJ (pk_le (sl g 19683) (sl g 19683) (fun _ => b289_103 (fin J kcj fj)) (fun z => absurd z (by omega)) rfl rfl (by omega) (by omega)))
    | succ j ih =>
      intro b J v4 hb kcj fj
      have es : sl g (b + 1) = sl g b + (if sB g b = true then 1 else 0) := rfl
      have hLJ : kLay g J := kLay_of hL (fun o z1 z2 => ch_row fj (by omega) (by omega) (by omega))
      by_cases hsb : sB g b = true
      · have sl1 := sl_lt hg hsb
        have CJ := wC_ch C1 fj kcj
        have hkJ := (CJ.2.2.2.1 i hi).2 hk
        have qq := fun J v4 => ih (b + 1) J v4 (by omega)
        rw [es, if_pos hsb] at qq
        have op := fun post' hp => k_isOpened (G := G) (n := n + 298) (I := J) (L := L) (q := q) (post := post') p3 hg hkJ hsb hp
        -- no bead of it
        have skip : (kc i).2.1 b = false → zQ G 289 (n + 299) (wPo G (n + 300) 114 [.ref 0, .int (nI i)] t) 97 [some (.ref 40), some (.int (nI i)), some (.int (nI (sJn (kc i) c b).2)), some (.int (nI (sl g b))), v4] [] J L (zR1 q) := fun d => by
          have q2 := qq J v4
          rw [sJn, if_neg (by rw [d]; decide), ← nI_1] at q2
          exact b289_97 (q2 kcj fj)
        have hallb := (sJn_in hg hik hin b).1
        have at59 : (kc i).2.1 b = true → ∀ J2 : zI, kC g (cSetOp (sJn (kc i) c b).1 b true) 62 63 64 J2 → zFr (tCh 62 63 64) J J2 → zQ G 289 (n + 299) (wPo G (n + 300) 114 [.ref 0, .int (nI i)] t) 59 [some (.ref 40), some (.int (nI i)), some (.int (nI (sJn (kc i) c b).2)), some (.int (nI (sl g b))), some (.int (nI 0))] [] J2 L (zR1 q) := by
          intro d
          have hbx := hik.2.1 b d
          have inner : ∀ (k m : Nat) (J2 : zI), m + k = 9 → kC g (sJb (kc i) b (cSetOp (sJn (kc i) c b).1 b true, (sJn (kc i) c b).2) m).1 62 63 64 J2 → zFr (tCh 62 63 64) J J2 → zQ G 289 (n + 299) (wPo G (n + 300) 114 [.ref 0, .int (nI i)] t) 59 [some (.ref 40), some (.int (nI i)), some (.int (nI (sJb (kc i) b (cSetOp (sJn (kc i) c b).1 b true, (sJn (kc i) c b).2) m).2)), some (.int (nI (sl g b))), some (.int (nI m))] [] J2 L (zR1 q) := by
            intro k
            induction k with
            | zero =>
              intro m J2 hm kc2 f2
              have e9 : m = 9 := by omega
              subst e9
              have q2 := qq J2 (some (.int (nI 9)))
              rw [sJn, if_pos d, ← nI_1] at q2
              exact b289_59x (pk_le 9 9 (fun _ => b289_97 (q2 kc2 (zFr_tr fj f2))) (fun z => absurd z (by omega)) rfl rfl (by omega) (by omega))
            | succ k ihk =>
              intro m J2 hm kc2 f2
              have hm9 : m < 9 := by omega
              have f12 := zFr_tr fj f2
              have CJ2 := wC_ch C1 f12 kc2
              have hkJ2 := (CJ2.2.2.2.1 i hi).2 hk
              have hbd := (cAll_bd hik.1 (k := 9 * b + m) (by omega)).1
              have hall2 := (sJb_in hg hik (s := (cSetOp (sJn (kc i) c b).1 b true, (sJn (kc i) c b).2)) (cIn_opn (sJn_in hg hik hin b) hbx.1 hbx.2.1 hbx.2.2) fup_s d m (by omega)).1.1
              have bd := fun post' hp => k_beadsOf (G := G) (n := n + 297) (I := J2) (L := L) (q := q) (post := post') p3 hg hkJ2 hsb hm9 hp
              have nx : ∀ J3 : zI, kC g (cGive (sJb (kc i) b (cSetOp (sJn (kc i) c b).1 b true, (sJn (kc i) c b).2) m).1 (9 * b + m) ((kc i).1 (9 * b + m))) 62 63 64 J3 → zFr (tCh 62 63 64) J2 J3 → zQ G 289 (n + 299) (wPo G (n + 300) 114 [.ref 0, .int (nI i)] t) 59 [some (.ref 40), some (.int (nI i)), some (.int (nI (sJb (kc i) b (cSetOp (sJn (kc i) c b).1 b true, (sJn (kc i) c b).2) m).2 + nI (min ((kc i).1 (9 * b + m)) (sJb (kc i) b (cSetOp (sJn (kc i) c b).1 b true, (sJn (kc i) c b).2) m).1.2.2.1))), some (.int (nI (sl g b))), some (.int (nI m + 1))] [] J3 L (zR1 q) := fun J3 kc3 f3 => by
                have q3 := ihk (m + 1) J3 (by omega)
                rw [sJb, ← nI_1] at q3
                have q4 := q3 kc3 (zFr_tr f2 f3)
                rw [nI_add]
                exact q4
              have tk := fun post' hp => k_takeIn (G := G) (n := n + 297) (I := J2) (L := L) (q := q) (post := post') (b := b) (k := m) (x := (kc i).1 (9 * b + m)) (Or.inl ⟨rfl, rfl, rfl⟩) hg hall2 kc2 hsb hm9 rfl (by omega) hp
              refine b289_59x (pk_le 9 m (fun z => absurd z (by omega)) (fun _ => ?_) rfl rfl (by omega) (by omega))
              show zck ("BoxesWithBeads$Chest" == zcn 1 && Nat.blt 1 zncl) (vp_in (nI i) 3 ∧ _)
              refine zck_t zs_chest (And.intro vi ?_)
              rw [e]
              have c3 : i = 0 ∨ i = 1 ∨ i = 2 := by omega
              rcases c3 with rfl | rfl | rfl <;> exact bd _ (tk _ (fun J3 kc3 f3 => nx J3 kc3 f3))
          intro J2 kc2 f2
          exact inner 9 0 J2 (by omega) kc2 f2
        refine b289_21x (k_boxCount hLJ (pk_le (sN g) (sl g b) (fun z => absurd z (by omega)) (fun _ => ?_) rfl rfl (by omega) (by omega)))
        show zck ("BoxesWithBeads$Chest" == zcn 1 && Nat.blt 1 zncl) (vp_in (nI i) 3 ∧ _)
        refine zck_t zs_chest (And.intro vi ?_)
        rw [e]
        have go : (kc i).2.1 b = true → ∀ post' : zPo, (∀ (r : Option Value) (J2 : zI), kC g (cSetOp (sJn (kc i) c b).1 b true) 62 63 64 J2 → zFr (tCh 62 63 64) J J2 → post' (some (.int 0)) J2 L (zR1 q)) → zC G (n + 299) 136 [.ref 62, .int (nI (sl g b)), .int 0, .int 0] J L (zR1 q) post' := fun d post' hp => k_fill2 (b := b) (x := 0) (f := fun _ => false) (Or.inl ⟨rfl, rfl, rfl⟩) hg hallb kcj hsb ((by decide +kernel : ∀ k, k < 9 → decide ((0 : Int32).toBitVec.toNat / 2 ^ k % 2 = 1) = false)) rfl (by decide) (fun J2 kc2 f2 => by
          rw [cFl_no] at kc2 ⊢
          exact hp none J2 kc2 f2)
        have c3 : i = 0 ∨ i = 1 ∨ i = 2 := by omega
        rcases c3 with rfl | rfl | rfl <;> exact op _ (zbo_eq (fun d => skip d) (fun d => go d _ (fun _ J2 kc2 f2 => And.intro rfl (at59 d J2 kc2 f2))))
      · have kf : (kc i).2.1 b = false := by
          cases e2 : (kc i).2.1 b with
          | false => rfl
          | true => exact absurd (cIn_sB hik e2) hsb
        have q2 := ih (b + 1) J v4 (by omega)
        rw [es, if_neg hsb, sJn, if_neg (by rw [kf]; decide), Nat.add_zero] at q2
        exact q2 kcj fj
  exact key 19683 0 I1 none (by omega) C1.2.2.1 (zFr_0 _ _)
end
