-- ===== the class: the chest draws, a foe answers =====
theorem pFr_z {t : Nat → Nat → Bool} {u : Nat → Nat → Prop} {I I' : zI} (h : zFr t I I') (hu : ∀ o k, t o k = true → u o k) : pFr u I I' := fun o k z => h o k (by
  cases e : t o k with
  | false => rfl
  | true => exact absurd (hu o k e) z)
theorem tCh_p {O B P o k : Nat} (h : tCh O B P o k = true) : o = B ∨ o = P ∨ (o = O ∧ (k = 2 ∨ k = 3 ∨ k = 4)) := by
  unfold tCh at h
  simp only [Bool.or_eq_true, Bool.and_eq_true, Nat.beq_eq] at h
  omega
theorem tPik_p {O o k : Nat} (h : tPik O o k = true) : (o = O ∧ k = 4) ∨ (o = 79 ∧ k = 13) ∨ o = 86 ∨ o = 87 := by
  unfold tPik at h
  simp only [Bool.or_eq_true, Bool.and_eq_true, Nat.beq_eq] at h
  omega
theorem kd_bits (g : zg) (b : Nat) : ∀ k, k < 9 → decide ((nI (sKd g b)).toBitVec.toNat / 2 ^ k % 2 = 1) = sHas g b k := fun k hk => by
  have := sKd_lt g b
  rw [pk_tn (by omega)]
  unfold sKd
  rw [sFB_bit _ 9 k hk]
  cases sHas g b k <;> rfl
/-- what a draw touches; what an answer -/
def pDm (X A K W O B P o k : Nat) : Prop := o = B ∨ o = P ∨ (o = O ∧ (k = 2 ∨ k = 3 ∨ k = 4)) ∨ o = A ∨ o = K ∨ o = W ∨ (o = X ∧ (k = 6 ∨ k = 7)) ∨ (o = 79 ∧ k = 13) ∨ o = 86 ∨ o = 87
def pAm (O o k : Nat) : Prop := (o = O ∧ k = 4) ∨ (o = 79 ∧ k = 13) ∨ o = 86 ∨ o = 87
theorem sB_box {g : zg} (hg : gOk g) {p : Nat} (hr : sR g p) (hw : sWork g p = g 8) : sB g (sBox g p) = true := sBxB_t.mpr ⟨(gR_box hg hr).1, (gR_box hg hr).2.1.trans hw, sBox_box hg hr⟩
theorem pDm_A {X A K W O B P k : Nat} : pDm X A K W O B P A k := .inr (.inr (.inr (.inl rfl)))
theorem pDm_K {X A K W O B P k : Nat} : pDm X A K W O B P K k := .inr (.inr (.inr (.inr (.inl rfl))))
theorem pDm_W {X A K W O B P k : Nat} : pDm X A K W O B P W k := .inr (.inr (.inr (.inr (.inr (.inl rfl)))))
theorem pDm_6 {X A K W O B P : Nat} : pDm X A K W O B P X 6 := .inr (.inr (.inr (.inr (.inr (.inr (.inl ⟨rfl, .inl rfl⟩))))))
theorem pDm_7 {X A K W O B P : Nat} : pDm X A K W O B P X 7 := .inr (.inr (.inr (.inr (.inr (.inr (.inl ⟨rfl, .inr rfl⟩))))))
theorem pDm_ch {X A K W O B P o k : Nat} (h : o = B ∨ o = P ∨ (o = O ∧ (k = 2 ∨ k = 3 ∨ k = 4))) : pDm X A K W O B P o k := h.elim .inl fun z => z.elim (fun w => .inr (.inl w)) fun w => .inr (.inr (.inl w))
theorem pDm_am {X A K W O B P o k : Nat} (h : pAm O o k) : pDm X A K W O B P o k := h.elim (fun z => .inr (.inr (.inl ⟨z.1, .inr (.inr z.2)⟩))) fun z => .inr (.inr (.inr (.inr (.inr (.inr (.inr z))))))
theorem pDm_lo {X A K W O B P o k : Nat} (h : 62 ≤ X ∧ 62 ≤ A ∧ 62 ≤ K ∧ 62 ≤ W ∧ 62 ≤ O ∧ 62 ≤ B ∧ 62 ≤ P) (ho : o ≤ 61) : ¬ pDm X A K W O B P o k := by
  obtain ⟨h1, h2, h3, h4, h5, h6, h7⟩ := h
  rintro (z | z | z | z | z | z | z | z | z | z) <;> omega
theorem pAm_no {O o k : Nat} (h1 : o ≠ O) (h2 : o = 79 → k ≠ 13) (h3 : o ≤ 85) : ¬ pAm O o k := by
  rintro (z | z | z | z)
  · exact h1 z.1
  · exact h2 z.1 z.2
  · omega
  · omega
theorem g86 {a : Nat} (h : 62 ≤ a ∧ a ≤ 84) : 86 ≠ a := by omega
theorem g87 {a : Nat} (h : 62 ≤ a ∧ a ≤ 84) : 87 ≠ a := by omega
/-- where the objects of a contest lie -/
theorem kXo_f {X M A K W N O B P : Nat} (h : kXo X M A K W N O B P) : ((62 ≤ X ∧ X ≤ 84) ∧ (62 ≤ M ∧ M ≤ 84) ∧ (62 ≤ A ∧ A ≤ 84) ∧ (62 ≤ K ∧ K ≤ 84) ∧ (62 ≤ W ∧ W ≤ 84) ∧ (62 ≤ N ∧ N ≤ 84) ∧ (62 ≤ O ∧ O ≤ 84) ∧ (62 ≤ B ∧ B ≤ 84) ∧ (62 ≤ P ∧ P ≤ 84)) ∧ (M ≠ 79 ∧ A ≠ 79 ∧ K ≠ 79 ∧ W ≠ 79 ∧ N ≠ 79 ∧ O ≠ 79 ∧ B ≠ 79 ∧ P ≠ 79) ∧ (A ≠ K ∧ A ≠ X ∧ K ≠ X ∧ (B ≠ A ∧ B ≠ K ∧ B ≠ X) ∧ (P ≠ A ∧ P ≠ K ∧ P ≠ X) ∧ (O ≠ A ∧ O ≠ K ∧ O ≠ X) ∧ (W ≠ O ∧ W ≠ B ∧ W ≠ P ∧ W ≠ X ∧ W ≠ A ∧ W ≠ K)) ∧ (M ≠ X ∧ M ≠ A ∧ M ≠ K ∧ M ≠ W ∧ M ≠ O ∧ M ≠ B ∧ M ≠ P) ∧ (N ≠ X ∧ N ≠ M ∧ N ≠ A ∧ N ≠ K ∧ N ≠ W ∧ N ≠ O ∧ N ≠ B ∧ N ≠ P) ∧ (X ≠ 69 ∧ M ≠ 69 ∧ A ≠ 69 ∧ K ≠ 69 ∧ W ≠ 69 ∧ O ≠ 69 ∧ B ≠ 69 ∧ P ≠ 69) ∧ (X ≠ 78 ∧ M ≠ 78 ∧ A ≠ 78 ∧ K ≠ 78 ∧ W ≠ 78 ∧ O ≠ 78 ∧ B ≠ 78 ∧ P ≠ 78) := by
  rcases h with ⟨rfl, rfl, rfl, rfl, rfl, rfl, rfl, rfl, rfl⟩ | ⟨rfl, rfl, rfl, rfl, rfl, rfl, rfl, rfl, rfl⟩ | ⟨rfl, rfl, rfl, rfl, rfl, rfl, rfl, rfl, rfl⟩ <;> exact ⟨by decide, by decide, ⟨by decide, by decide, by decide, by decide, by decide, by decide, by decide⟩, by decide, by decide, by decide, by decide⟩
section
variable {τ : Type} {G : zG} {n : Nat} {I : zI} {L : zL} {q : zq} {post : zPo} {g : zg} {F : zfo} {fr : Nat → Nat} {T : τ → zI → zL → Prop} {V : sC × τ → (Nat → Nat) → Nat → Prop} {pf : sC × τ → (Nat → Nat) → Nat → Nat × (sC × τ)} {X M A K W N O B P fA : Nat}
set_option maxHeartbeats 4000000 in
theorem k_drawMove {s : sC × τ} {p dn : Nat} (hO : kXo X M A K W N O B P) (hpk : kPK G n X g O B P q T V pf) (hT : kTst T) (hpf : kPf V pf) (hfA : kAr fA 21 ∧ (fA = 69 ∨ fA = 78)) (hL : kLay g I) (hfr : kFr fr fA I) (hc : kC g s.1 O B P I) (ht : T s.2 I L) (hin : cIn g s.1) (hr : sR g p) (hw : sWork g p = g 8) (hdn : I X 6 = nI dn) (hd20 : dn < 20) (hV : sInB (sOpn g fr s.1 (sBox g p)) (sBox g p) ≠ 0 → V (sOpn g fr s.1 (sBox g p), s.2) (gBd (sOpn g fr s.1 (sBox g p)) (sBox g p)) 9) (h0 : sInB (sOpn g fr s.1 (sBox g p)) (sBox g p) = 0 → ∀ I' : zI, kC g (sOpn g fr s.1 (sBox g p)) O B P I' → T s.2 I' L → I' X 7 = nI p → I' X 6 = nI dn → I' A = I A → I' K = I K → pFr (pDm X A K W O B P) I I' → post (some (.int (-1))) I' L (zR1 q)) (h1 : sInB (sOpn g fr s.1 (sBox g p)) (sBox g p) ≠ 0 → ∀ (I' : zI) (L' : zL), kC g (gOw pf (sOpn g fr s.1 (sBox g p)) s.2 (sBox g p)).2.1 O B P I' → T (gOw pf (sOpn g fr s.1 (sBox g p)) s.2 (sBox g p)).2.2 I' L' → I' X 7 = I X 7 → I' X 6 = nI (dn + 1) → I' A dn = nI p → (∀ j, j ≠ dn → I' A j = I A j) → I' K dn = nI (gOw pf (sOpn g fr s.1 (sBox g p)) s.2 (sBox g p)).1 → (∀ j, j ≠ dn → I' K j = I K j) → pFr (pDm X A K W O B P) I I' → lPk L L' → post (some (.int (nI (sMv g p (gOw pf (sOpn g fr s.1 (sBox g p)) s.2 (sBox g p)).1)))) I' L' (zR1 q)) : zC G (n + 3) 150 [.ref X, .ref O, .int (nI p), .ref fA] I L (zR1 q) post := by
  have hg := hL.1.1
  have g8 := hg.2.2.2.2.2.2.2.2
  have hw2 : sWork g p < 2 := by omega
  have h19 := sR_lt hg hr
  have bb := gR_box hg hr
  have hb := sB_box hg hr hw
  have hsl := sl_lt hg hb
  have hb19 := sR_lt hg bb.1
  have hcO := kXo_co hO
  have hO' := hO
  obtain ⟨o1, o2, o3⟩ := sOpn_in hg (fr := fr) hin hr hw
  have hok := fun hn => gOw_ok hpf (b := sBox g p) (t := s.2) o1 hn (hV hn)
  have sn : sStn g (sBox g p) = sStn g p := bb.2.2.1
  have eopn : sOpn g fr s.1 (sBox g p) = if s.1.2.1 (sBox g p) = true then s.1 else (cFl (sHas g (sBox g p)) (sBox g p) (fr (min 20 (sStn g p))) (cSetOp s.1 (sBox g p) true) 9).1 := by
    unfold sOpn
    rw [cFl_fill, cFill_9 hg, sn]
  generalize hd : sOpn g fr s.1 (sBox g p) = d at *
  generalize hbq : sBox g p = b at *
  have dall : ∀ k, k < 9 → d.1 (9 * b + k) ≤ 10000 := fun k hk => (cAll_bd o1.1 (k := 9 * b + k) (by omega)).1
  have hle := sInB_le o1.1 hb19
  obtain ⟨hge, n79, nA, nM, -, -, -⟩ := kXo_f hO
  have lay : ∀ J : zI, pFr (pDm X A K W O B P) I J → kLay g J := fun J jf => kLay_of hL (fun o z1 z2 => funext fun k => jf o k (pDm_lo ⟨hge.1.1, hge.2.2.1.1, hge.2.2.2.1.1, hge.2.2.2.2.1.1, hge.2.2.2.2.2.2.1.1, hge.2.2.2.2.2.2.2.1.1, hge.2.2.2.2.2.2.2.2.1⟩ z2))
  have tst : ∀ J : zI, (∀ o, o ≠ B → o ≠ P → o ≠ O → o ≠ A → o ≠ K → o ≠ W → o ≠ X → J o = I o) → (X = 79 → J 79 13 = I 79 13 ∧ J 79 14 = I 79 14) → T s.2 J L := fun J jo jx => by
    have z79 : J 79 13 = I 79 13 ∧ J 79 14 = I 79 14 := by
      by_cases z : X = 79
      · exact jx z
      · rw [jo 79 (Ne.symm n79.2.2.2.2.2.2.1) (Ne.symm n79.2.2.2.2.2.2.2) (Ne.symm n79.2.2.2.2.2.1) (Ne.symm n79.2.1) (Ne.symm n79.2.2.1) (Ne.symm n79.2.2.2.1) (fun w => z w.symm)]
        exact ⟨rfl, rfl⟩
    exact hT _ _ _ _ _ ht z79.1 z79.2 (jo 86 (g86 hge.2.2.2.2.2.2.2.1) (g86 hge.2.2.2.2.2.2.2.2) (g86 hge.2.2.2.2.2.2.1) (g86 hge.2.2.1) (g86 hge.2.2.2.1) (g86 hge.2.2.2.2.1) (g86 hge.1)) (jo 87 (g87 hge.2.2.2.2.2.2.2.1) (g87 hge.2.2.2.2.2.2.2.2) (g87 hge.2.2.2.2.2.2.1) (g87 hge.2.2.1) (g87 hge.2.2.2.1) (g87 hge.2.2.2.2.1) (g87 hge.1)) rfl
  -- picking
  have at123 : ∀ J : zI, kC g d O B P J → T s.2 J L → (∀ k, k < 9 → J W k = nI (gBd d b k)) → J X 7 = I X 7 → J X 6 = nI dn → J A = I A → J K = I K → pFr (pDm X A K W O B P) I J → sInB d b ≠ 0 → zQ G 150 (n + 2) post 123 [some (.ref X), some (.ref O), some (.int (nI p)), some (.ref fA), some (.int (nI (sl g b))), some (.int (nI (sInB d b))), none] [] J L (zR1 q) := by
    intro J jc jt jw j7 j6 jA jK jf hn
    obtain ⟨k9, khs, r, ker⟩ := hok hn
    have LJ : kLay g J := lay J jf
    have hkm : (gOw pf d s.2 b).1 < sMM g := sCan_lt (sHas_lt hg khs).2
    have fin : ∀ (J2 : zI) (L2 : zL), kC g (gOw pf d s.2 b).2.1 O B P J2 → T (gOw pf d s.2 b).2.2 J2 L2 → zFr (tPik O) J J2 → lPk L L2 → J2 X 6 = nI dn ∧ zup J2 A dn (nI p) X 6 = nI dn ∧ zup (zup J2 A dn (nI p)) K dn (nI (gOw pf d s.2 b).1) X 6 + 1 = nI (dn + 1) ∧ (∀ v : Int32, v = nI (dn + 1) → kLay g (zup (zup (zup J2 A dn (nI p)) K dn (nI (gOw pf d s.2 b).1)) X 6 v) ∧ post (some (.int (nI (sMv g p (gOw pf d s.2 b).1)))) (zup (zup (zup J2 A dn (nI p)) K dn (nI (gOw pf d s.2 b).1)) X 6 v) L2 (zR1 q)) := by
      intro J2 L2 c2 t2 f2 l2
      have f2p : pFr (pAm O) J J2 := pFr_z f2 fun o k z => tPik_p z
      have f2d : pFr (pDm X A K W O B P) I J2 := pFr_tr jf (pFr_le f2p fun o k z => pDm_am z)
      have x6 : J2 X 6 = nI dn := (f2p X 6 (pAm_no (Ne.symm nA.2.2.2.2.2.1.2.2) (fun _ => by decide) (by omega))).trans j6
      refine ⟨x6, by rw [zup_ne (Ne.symm nA.2.1)]; exact x6, by rw [zup_ne (Ne.symm nA.2.2.1), zup_ne (Ne.symm nA.2.1), x6, nI_1], fun v hv => ?_⟩
      obtain ⟨J3, hJ3⟩ : ∃ J3 : zI, J3 = zup (zup (zup J2 A dn (nI p)) K dn (nI (gOw pf d s.2 b).1)) X 6 v := ⟨_, rfl⟩
      rw [← hJ3]
      subst hv
      have j3o : ∀ o, o ≠ A → o ≠ K → o ≠ X → J3 o = J2 o := fun o z1 z2 z3 => by rw [hJ3, zup_ne z3, zup_ne z2, zup_ne z1]
      have f3d : pFr (pDm X A K W O B P) I J3 := by
        rw [hJ3]
        exact pFr_up (pFr_up (pFr_up f2d pDm_A) pDm_K) pDm_6
      refine ⟨lay J3 f3d, ?_⟩
      have j3x : ∀ k, k ≠ 6 → J3 X k = J2 X k := fun k hk => by rw [hJ3, zup_k hk, zup_ne (Ne.symm nA.2.2.1), zup_ne (Ne.symm nA.2.1)]
      have j79 : ∀ k, k ≠ 6 → J3 79 k = J2 79 k := fun k hk => by
        by_cases z : X = 79
        · rw [← z]
          exact j3x k hk
        · rw [j3o 79 (Ne.symm n79.2.1) (Ne.symm n79.2.2.1) (fun w => z w.symm)]
      refine h1 hn J3 L2 (kC_of c2 (j3o B nA.2.2.2.1.1 nA.2.2.2.1.2.1 nA.2.2.2.1.2.2) (j3o P nA.2.2.2.2.1.1 nA.2.2.2.2.1.2.1 nA.2.2.2.2.1.2.2) (fun k _ => by rw [j3o O nA.2.2.2.2.2.1.1 nA.2.2.2.2.2.1.2.1 nA.2.2.2.2.2.1.2.2])) (hT _ _ _ _ _ t2 (j79 13 (by decide)) (j79 14 (by decide)) (j3o 86 (g86 hge.2.2.1) (g86 hge.2.2.2.1) (g86 hge.1)) (j3o 87 (g87 hge.2.2.1) (g87 hge.2.2.2.1) (g87 hge.1)) rfl) ?_ ?_ ?_ (fun j hj => ?_) ?_ (fun j hj => ?_) f3d l2
      · rw [j3x 7 (by decide), f2p X 7 (pAm_no (Ne.symm nA.2.2.2.2.2.1.2.2) (fun _ => by decide) (by omega))]
        exact j7
      · rw [hJ3, zup_self]
      · rw [hJ3, zup_ne nA.2.1, zup_ne nA.1, zup_self]
      · rw [hJ3, zup_ne nA.2.1, zup_ne nA.1, zup_k hj, f2p A j (pAm_no (Ne.symm nA.2.2.2.2.2.1.1) (fun z => absurd z n79.2.1) (by omega)), jA]
      · rw [hJ3, zup_ne nA.2.2.1, zup_self]
      · rw [hJ3, zup_ne nA.2.2.1, zup_k hj, zup_ne (Ne.symm nA.1), f2p K j (pAm_no (Ne.symm nA.2.2.2.2.2.1.2.1) (fun z => absurd z n79.2.2.1) (by omega)), jK]
    have pkc := hpk (d, s.2) (gBd d b) 9 W 9 J L
    have sum9 : sSum (gBd d b) 9 = sInB d b := rfl
    rw [sum9] at pkc
    have vd : vp_in (nI dn) 20 := vp_in_nI hd20 (by decide)
    have hcl : (nI dn).toNatClampNeg = dn := nI_clamp (by omega)
    rcases hO with ⟨x1, x2, x3, x4, x5, x6, x7, x8, x9⟩ | ⟨x1, x2, x3, x4, x5, x6, x7, x8, x9⟩ | ⟨x1, x2, x3, x4, x5, x6, x7, x8, x9⟩ <;> (
      subst x1 x2 x3 x4 x5 x6 x7 x8 x9
      refine b150_123 (pkc _ jc jt ⟨rfl, rfl⟩ (by omega) (by omega) jw (fun k hk => by have := dall k hk; unfold gBd; omega) (Nat.pos_of_ne_zero hn) (by omega) (hV hn) (fun J2 L2 c2 t2 f2 l2 => ?_))
      obtain ⟨a1, a2, a3, a4⟩ := fin J2 L2 c2 t2 f2 l2
      refine And.intro (by rw [a1]; exact vd) ?_
      rw [a1, hcl]
      refine And.intro (by rw [a2]; exact vd) ?_
      rw [a2, hcl]
      refine And.intro rfl (k_moveBack (a4 _ a3).1 hr hw2 k9 (fun v _ hv => ?_))
      rw [hv hkm]
      exact (a4 _ a3).2)
  -- the weights told
  have at46 : ∀ J : zI, kC g d O B P J → T s.2 J L → J X 7 = I X 7 → J X 6 = nI dn → J A = I A → J K = I K → pFr (pDm X A K W O B P) I J → zQ G 150 (n + 2) post 46 [some (.ref X), some (.ref O), some (.int (nI p)), some (.ref fA), some (.int (nI (sl g b))), none, none] [] J L (zR1 q) := by
    intro J0 jc0 jt0 j70 j60 jA0 jK0 jf0
    have stuck : ∀ (J : zI) (v5 v6 : Option Value), kC g d O B P J → T s.2 J L → J X 6 = nI dn → J A = I A → J K = I K → pFr (pDm X A K W O B P) I J → sInB d b = 0 → zQ G 150 (n + 2) post 116 [some (.ref X), some (.ref O), some (.int (nI p)), some (.ref fA), some (.int (nI (sl g b))), v5, v6] [] J L (zR1 q) := by
      intro J v5 v6 jc jt j6 jA jK jf hz
      have jx : ∀ o, o ≠ X → zup J X 7 (nI p) o = J o := fun o ho => zup_ne ho
      have hh := h0 hz (zup J X 7 (nI p)) (kC_of jc (jx B nA.2.2.2.1.2.2) (jx P nA.2.2.2.2.1.2.2) (fun k _ => by rw [jx O nA.2.2.2.2.2.1.2.2])) (hT _ _ _ _ _ jt (by
        by_cases z : X = 79
        · rw [z, zup_k (by decide)]
        · rw [jx 79 (fun w => z w.symm)]) (by
        by_cases z : X = 79
        · rw [z, zup_k (by decide)]
        · rw [jx 79 (fun w => z w.symm)]) (jx 86 (g86 hge.1)) (jx 87 (g87 hge.1)) rfl) zup_self ((zup_k (by decide)).trans j6) ((jx A nA.2.1).trans jA) ((jx K nA.2.2.1).trans jK) (pFr_up jf pDm_7)
      rcases hO with ⟨x1, x2, x3, x4, x5, x6, x7, x8, x9⟩ | ⟨x1, x2, x3, x4, x5, x6, x7, x8, x9⟩ | ⟨x1, x2, x3, x4, x5, x6, x7, x8, x9⟩ <;> (
        subst x1 x2 x3 x4 x5 x6 x7 x8 x9
        exact b150_116 hh)
    have key : ∀ j k (J : zI), k + j = 9 → kC g d O B P J → T s.2 J L → (∀ i, i < k → J W i = nI (gBd d b i)) → J X 7 = I X 7 → J X 6 = nI dn → J A = I A → J K = I K → pFr (pDm X A K W O B P) I J → zQ G 150 (n + 2) post 52 [some (.ref X), some (.ref O), some (.int (nI p)), some (.ref fA), some (.int (nI (sl g b))), some (.int (nI (sSum (gBd d b) k))), some (.int (nI k))] [] J L (zR1 q) := by
      intro j
      induction j with
      | zero =>
        intro k J hk jc jt jw j7 j6 jA jK jf
        have e9 : k = 9 := by omega
        subst e9
        have st := fun v5 v6 hz => stuck J v5 v6 jc jt j6 jA jK jf hz
        have go := fun hn => at123 J jc jt jw j7 j6 jA jK jf hn
        have e : sSum (gBd d b) 9 = sInB d b := rfl
        rw [e]
        have dec : ∀ x : Int32, x = nI dn → (x < 0 → zQ G 150 (n + 2) post 116 [some (.ref X), some (.ref O), some (.int (nI p)), some (.ref fA), some (.int (nI (sl g b))), some (.int (nI (sInB d b))), some (.int (nI 9))] [] J L (zR1 q)) ∧ (¬ x < 0 → (x < nI 20 → (0 < sInB d b → zQ G 150 (n + 2) post 123 [some (.ref X), some (.ref O), some (.int (nI p)), some (.ref fA), some (.int (nI (sl g b))), some (.int (nI (sInB d b))), some (.int (nI 9))] [] J L (zR1 q))) ∧ (¬ x < nI 20 → zQ G 150 (n + 2) post 116 [some (.ref X), some (.ref O), some (.int (nI p)), some (.ref fA), some (.int (nI (sl g b))), some (.int (nI (sInB d b))), some (.int (nI 9))] [] J L (zR1 q))) := by
          intro x hx
          subst hx
          exact ⟨fun z => absurd z (nI_pos (by omega)), fun _ => ⟨fun _ c => zP_lv (by exact ⟨rfl, rfl, rfl, rfl, rfl, rfl, trivial⟩) (go (by omega)), fun z => absurd ((nI_ltI (by omega) (by omega)).mpr hd20) z⟩⟩
        have dd := dec _ j6
        rcases hO with ⟨x1, x2, x3, x4, x5, x6, x7, x8, x9⟩ | ⟨x1, x2, x3, x4, x5, x6, x7, x8, x9⟩ | ⟨x1, x2, x3, x4, x5, x6, x7, x8, x9⟩ <;> (
          subst x1 x2 x3 x4 x5 x6 x7 x8 x9
          refine b150_52 (pk_le 9 9 (fun _ => b150_92 (pk_le (sInB d b) 0 (fun c => st _ _ (by omega)) (fun c => And.intro dd.1 (fun z => And.intro (fun z2 => (dd.2 z).1 z2 c) (fun z2 => (dd.2 z).2 z2))) rfl rfl (by omega) (by omega))) (fun z => absurd z (by omega)) rfl rfl (by omega) (by omega)))
      | succ j ih =>
        intro k J hk jc jt jw j7 j6 jA jK jf
        have hk9 : k < 9 := by omega
        have jx : ∀ o, o ≠ W → zup J W k (nI (gBd d b k)) o = J o := fun o ho => zup_ne ho
        have qq := ih (k + 1) (zup J W k (nI (gBd d b k))) (by omega) (kC_of jc (jx B (Ne.symm nA.2.2.2.2.2.2.2.1)) (jx P (Ne.symm nA.2.2.2.2.2.2.2.2.1)) (fun k _ => by rw [jx O (Ne.symm nA.2.2.2.2.2.2.1)])) (hT _ _ _ _ _ jt (by rw [jx 79 (Ne.symm n79.2.2.2.1)]) (by rw [jx 79 (Ne.symm n79.2.2.2.1)]) (jx 86 (g86 hge.2.2.2.2.1)) (jx 87 (g87 hge.2.2.2.2.1)) rfl) (fun i hi => by
          rw [zup_eq]
          by_cases w : i = k
          · rw [if_pos w, w]
          · rw [if_neg w]
            exact jw i (by omega)) (by rw [jx X (Ne.symm nA.2.2.2.2.2.2.2.2.2.1)]; exact j7) (by rw [jx X (Ne.symm nA.2.2.2.2.2.2.2.2.2.1)]; exact j6) ((jx A (Ne.symm nA.2.2.2.2.2.2.2.2.2.2.1)).trans jA) ((jx K (Ne.symm nA.2.2.2.2.2.2.2.2.2.2.2)).trans jK) (pFr_up jf pDm_W)
        rw [← nI_1, sSum, ← nI_add] at qq
        rcases hO with ⟨x1, x2, x3, x4, x5, x6, x7, x8, x9⟩ | ⟨x1, x2, x3, x4, x5, x6, x7, x8, x9⟩ | ⟨x1, x2, x3, x4, x5, x6, x7, x8, x9⟩ <;> (
          subst x1 x2 x3 x4 x5 x6 x7 x8 x9
          refine b150_52 (pk_le 9 k (fun z => absurd z (by omega)) (fun _ => k_beadsOf (b := b) hcO hg jc hb hk9 (And.intro (vp_in_nI hk9 (by decide)) (And.intro (vp_in_nI hk9 (by decide)) ?_))) rfl rfl (by omega) (by omega))
          rw [nI_clamp (by omega), zup_self]
          exact qq)
    have kk := key 9 0 J0 (by omega) jc0 jt0 (fun i hi => absurd hi (Nat.not_lt_zero _)) j70 j60 jA0 jK0 jf0
    rcases hO with ⟨x1, x2, x3, x4, x5, x6, x7, x8, x9⟩ | ⟨x1, x2, x3, x4, x5, x6, x7, x8, x9⟩ | ⟨x1, x2, x3, x4, x5, x6, x7, x8, x9⟩ <;> (
      subst x1 x2 x3 x4 x5 x6 x7 x8 x9
      exact b150_46 kk)
  -- the box opened, if it was not
  have first46 : s.1.2.1 b = true → zQ G 150 (n + 2) post 46 [some (.ref X), some (.ref O), some (.int (nI p)), some (.ref fA), some (.int (nI (sl g b))), none, none] [] I L (zR1 q) := fun e => by
    rw [if_pos e] at eopn
    exact at46 I (by rw [eopn]; exact hc) ht rfl hdn rfl rfl (pFr_0 _ _)
  have filled : s.1.2.1 b = false → ∀ J : zI, kC g (cFl (sHas g b) b (fr (min 20 (sStn g p))) (cSetOp s.1 b true) 9).1 O B P J → zFr (tCh O B P) I J → zQ G 150 (n + 2) post 46 [some (.ref X), some (.ref O), some (.int (nI p)), some (.ref fA), some (.int (nI (sl g b))), none, none] [] J L (zR1 q) := fun e J jc jf => by
    rw [if_neg (by rw [e]; decide)] at eopn
    have jfp : pFr (pDm X A K W O B P) I J := pFr_z jf fun o k z => pDm_ch (tCh_p z)
    have jo : ∀ o, o ≠ B → o ≠ P → o ≠ O → J o = I o := fun o z1 z2 z3 => funext fun k => jf o k (by
      cases e2 : tCh O B P o k with
      | false => rfl
      | true => have := tCh_p e2; omega)
    refine at46 J (by rw [eopn]; exact jc) (tst J (fun o z1 z2 z3 _ _ _ _ => jo o z1 z2 z3) (fun _ => by rw [jo 79 (Ne.symm n79.2.2.2.2.2.2.1) (Ne.symm n79.2.2.2.2.2.2.2) (Ne.symm n79.2.2.2.2.2.1)]; exact ⟨rfl, rfl⟩)) (by rw [jo X (Ne.symm nA.2.2.2.1.2.2) (Ne.symm nA.2.2.2.2.1.2.2) (Ne.symm nA.2.2.2.2.2.1.2.2)]) (by rw [jo X (Ne.symm nA.2.2.2.1.2.2) (Ne.symm nA.2.2.2.2.1.2.2) (Ne.symm nA.2.2.2.2.2.1.2.2)]; exact hdn) (jo A (Ne.symm nA.2.2.2.1.1) (Ne.symm nA.2.2.2.2.1.1) (Ne.symm nA.2.2.2.2.2.1.1)) (jo K (Ne.symm nA.2.2.2.1.2.1) (Ne.symm nA.2.2.2.2.1.2.1) (Ne.symm nA.2.2.2.2.2.1.2.1)) jfp
  have f20 := (hfr (min 20 (sStn g p)) (by omega)).2
  have st31 : sStn g p < 2 ^ 31 := by
    unfold sStn
    have := sCnt_le p (sPl g)
    have := sPl_pos hg
    have h5 := hg.2.2.2.2.2.1
    split <;> omega
  rcases hO with ⟨x1, x2, x3, x4, x5, x6, x7, x8, x9⟩ | ⟨x1, x2, x3, x4, x5, x6, x7, x8, x9⟩ | ⟨x1, x2, x3, x4, x5, x6, x7, x8, x9⟩ <;> (
    subst x1 x2 x3 x4 x5 x6 x7 x8 x9
    refine zin0 rfl rfl rfl (b150_0 (k_slotP hL hr hw ?_))
    rw [hbq]
    refine k_isOpened (b := b) hcO hg hc hb (zbo_ne (fun e => first46 e) (fun e => k_kindsAt hL hr hw2 (k_stonesL hL hr hw2 (k_entryFor hfA.1 hfr st31 ?_))))
    rw [hbq]
    exact k_fill2 (b := b) hcO hg hin.1 hc hb (kd_bits g b) rfl (by omega) (fun J jc jf => And.intro rfl (filled e J jc jf)))
end
