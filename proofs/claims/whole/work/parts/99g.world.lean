-- ===== both sides' worlds, told by one state =====
section
variable {g : zg} {c : sC} {fr : Nat → Nat} {nr : Nat} {rl : zrl} {ru : Option Nat} {nf : Nat} {fo : Nat → zfo} {en : Nat → Int32} {tx : Nat → Nat} {tn : Nat} {kp : Nat → Bool} {kc : Nat → sC} {wa : List zwt} {ro : List Int64} {t : Nat}
/-- the reference -/
def wM (g : zg) (c : sC) (fr : Nat → Nat) (nr : Nat) (rl : zrl) (ru : Option Nat) (nf : Nat) (fo : Nat → zfo) (en : Nat → Int32) (tx : Nat → Nat) (tn : Nat) (kp : Nat → Bool) (kc : Nat → sC) (wa : List zwt) (ro : List Int64) (I : zI) (L : zL) : Prop := (mG g I ∧ mPos g I) ∧ (mC c I ∧ cIn g c) ∧ mF fr I ∧ mRl nr rl ru I ∧ mFo nf fo I L ∧ mE en I ∧ mTx tx tn I ∧ ((∀ i, i < 3 → I 29 i = zbo (kp i)) ∧ ∀ i, i < 3 → kp i = true → mK i (kc i) I ∧ cIn g (kc i)) ∧ mWa wa I ∧ (mRow ro I L ∧ ro.length ≤ 32) ∧ I 0 35 = 0
/-- the table and the likes: laid, or to be laid -/
def kZ (g : zg) (I : zI) : Prop := kG g I ∧ I 51 1 = nI (g 7) ∧ I 51 2 = nI (g 8) ∧ (I 44 8 = 0 ∨ (I 44 8 = 1 ∧ kTb g I)) ∧ (I 51 14 = 0 ∨ (I 51 14 = 1 ∧ kLs g I ∧ I 44 8 = 1))
def kKp (g : zg) (kp : Nat → Bool) (kc : Nat → sC) (I : zI) : Prop := ∀ i, i < 3 → I (98 + 3 * i) 5 = zbo (kp i) ∧ (kp i = true → kC g (kc i) (98 + 3 * i) (99 + 3 * i) (100 + 3 * i) I)
def kRs (nr : Nat) (rl : zrl) (ru : Option Nat) (I : zI) : Prop := nr ≤ 8 ∧ I 40 9 = nI nr ∧ I 40 10 = zon ru ∧ (∀ r, ru = some r → r < nr) ∧ ∀ r, r < nr → kRu (107 + 3 * r) (108 + 3 * r) (109 + 3 * r) (rl.1 r, rl.2.1 r, rl.2.2 r) I ∧ rsOk (rl.1 r, rl.2.1 r, rl.2.2 r)
def kFs (nf : Nat) (fo : Nat → zfo) (I : zI) : Prop := nf ≤ 8 ∧ I 40 12 = nI nf ∧ ∀ f, f < nf → foOk (fo f) ∧ kFo (131 + 5 * f) (132 + 5 * f) (133 + 5 * f) (134 + 5 * f) (135 + 5 * f) (fo f) I
def kEn (en : Nat → Int32) (I : zI) : Prop := I 94 0 = en 0 - en 3 ∧ I 94 1 = en 1 ∧ I 94 2 = en 2 ∧ I 94 3 = en 3
def kWa (wa : List zwt) (I : zI) : Prop := I 40 18 = nI wa.length ∧ wa.length ≤ 12 ∧ ∀ j wt, wa[j]? = some wt → waOk wt ∧ I 95 (4 * j) = nI wt.1 ∧ I 95 (4 * j + 1) = nI wt.2.1 ∧ I 95 (4 * j + 2) = nI wt.2.2.1 ∧ I 95 (4 * j + 3) = nI wt.2.2.2

/-- the class -/
def wC (g : zg) (c : sC) (fr : Nat → Nat) (nr : Nat) (rl : zrl) (ru : Option Nat) (nf : Nat) (fo : Nat → zfo) (en : Nat → Int32) (tx : Nat → Nat) (tn : Nat) (kp : Nat → Bool) (kc : Nat → sC) (wa : List zwt) (ro : List Int64) (t : Nat) (I : zI) (L : zL) : Prop := kZ g I ∧ (kD I ∧ kTx tx tn 0 I) ∧ kC g c 62 63 64 I ∧ kKp g kp kc I ∧ kFr fr 69 I ∧ kRs nr rl ru I ∧ kFs nf fo I ∧ (∀ k, k < 9 → I 77 k = 1 ∧ I 84 k = 1) ∧ kEn en I ∧ kWa wa I ∧ kRow ro I L ∧ kMk t I
def wB (g : zg) (c : sC) (fr : Nat → Nat) (nr : Nat) (rl : zrl) (ru : Option Nat) (nf : Nat) (fo : Nat → zfo) (en : Nat → Int32) (tx : Nat → Nat) (tn : Nat) (kp : Nat → Bool) (kc : Nat → sC) (wa : List zwt) (ro : List Int64) (t : Nat) (I : zI) (L : zL) : Prop := wM g c fr nr rl ru nf fo en tx tn kp kc wa ro I L ∧ wC g c fr nr rl ru nf fo en tx tn kp kc wa ro t I L
theorem kZ_of {I I' : zI} (h : kZ g I) (ho : ∀ o, 44 ≤ o → o ≤ 61 → I' o = I o) : kZ g I' := by
  obtain ⟨h1, h2, h3, h4, h5⟩ := h
  refine ⟨kG_of h1 (ho 45 (by decide) (by decide)), by rw [ho 51 (by decide) (by decide)]; exact h2, by rw [ho 51 (by decide) (by decide)]; exact h3, ?_, ?_⟩
  · rw [ho 44 (by decide) (by decide)]
    exact h4.imp id (fun z => ⟨z.1, kTb_of z.2 (ho 46 (by decide) (by decide)) (ho 47 (by decide) (by decide)) (ho 48 (by decide) (by decide)) (ho 49 (by decide) (by decide)) (by rw [ho 44 (by decide) (by decide)])⟩)
  · rw [ho 44 (by decide) (by decide), ho 51 (by decide) (by decide)]
    exact h5.imp id (fun z => ⟨z.1, ⟨kLt_of z.2.1.1 (by rw [ho 51 (by decide) (by decide)]) (ho 57 (by decide) (by decide)) (ho 58 (by decide) (by decide)), kLi_of z.2.1.2 (ho 52 (by decide) (by decide)) (ho 53 (by decide) (by decide)) (ho 54 (by decide) (by decide)) (ho 55 (by decide) (by decide)) (ho 56 (by decide) (by decide)) (ho 59 (by decide) (by decide)) (ho 60 (by decide) (by decide))⟩, z.2.2⟩)
theorem kKp_of {I I' : zI} (h : kKp g kp kc I) (ho : ∀ o, 98 ≤ o → o ≤ 106 → I' o = I o) : kKp g kp kc I' := fun i hi => by
  obtain ⟨h1, h2⟩ := h i hi
  refine ⟨by rw [ho _ (by omega) (by omega)]; exact h1, fun z => kC_of (h2 z) (ho _ (by omega) (by omega)) (ho _ (by omega) (by omega)) (fun k _ => by rw [ho _ (by omega) (by omega)])⟩
theorem kFr_of {fA : Nat} {I I' : zI} (h : kFr fr fA I) (ho : I' fA = I fA) : kFr fr fA I' := by
  unfold kFr
  rw [ho]
  exact h
theorem kRs_of {I I' : zI} (h : kRs nr rl ru I) (h9 : I' 40 9 = I 40 9) (h10 : I' 40 10 = I 40 10) (ho : ∀ o, 107 ≤ o → o ≤ 130 → I' o = I o) : kRs nr rl ru I' := by
  obtain ⟨h1, h2, h3, h4, h5⟩ := h
  exact ⟨h1, h9.trans h2, h10.trans h3, h4, fun r hr => ⟨kRu_of (h5 r hr).1 (ho _ (by omega) (by omega)) (ho _ (by omega) (by omega)) (ho _ (by omega) (by omega)), (h5 r hr).2⟩⟩
theorem kFo_fr {O A B C D : Nat} {F : zfo} {I I' : zI} (h : kFo O A B C D F I) (hO : I' O = I O) (hA : I' A = I A) (hB : I' B = I B) (hC : I' C = I C) (hD : I' D = I D) : kFo O A B C D F I' := by
  unfold kFo
  rw [hO, hA, hB, hC, hD]
  exact h
theorem kFs_of {I I' : zI} (h : kFs nf fo I) (h12 : I' 40 12 = I 40 12) (ho : ∀ o, 131 ≤ o → I' o = I o) : kFs nf fo I' := by
  obtain ⟨h1, h2, h5⟩ := h
  exact ⟨h1, h12.trans h2, fun f hf => ⟨(h5 f hf).1, kFo_fr (h5 f hf).2 (ho _ (by omega)) (ho _ (by omega)) (ho _ (by omega)) (ho _ (by omega)) (ho _ (by omega))⟩⟩
theorem kWa_of {I I' : zI} (h : kWa wa I) (h18 : I' 40 18 = I 40 18) (ho : I' 95 = I 95) : kWa wa I' := by
  unfold kWa
  rw [h18, ho]
  exact h
theorem kRow_of {I I' : zI} {L L' : zL} (h : kRow ro I L) (h1 : I' 96 = I 96) (hL : L' 97 = L 97) : kRow ro I' L' := by
  unfold kRow
  rw [h1, hL]
  exact h
theorem kEn_of {I I' : zI} (h : kEn en I) (h1 : I' 94 = I 94) : kEn en I' := by
  unfold kEn
  rw [h1]
  exact h
theorem kD_of {I I' : zI} (h : kD I) (h1 : I' 43 = I 43) : kD I' := by
  unfold kD
  rw [h1]
  exact h
/-- what the class's games touch of what is told here: all but these -/
def wKeep (o : Nat) : Prop := (40 ≤ o ∧ o ≤ 43) ∨ o = 69 ∨ o = 77 ∨ o = 84 ∨ o = 95 ∨ 98 ≤ o
/-- new chest, ends, row, looks; all else is kept -/
theorem wC_play {c' : sC} {en' : Nat → Int32} {ro' : List Int64} {t' : Nat} {I I' : zI} {L L' : zL} (h : wC g c fr nr rl ru nf fo en tx tn kp kc wa ro t I L) (ho : ∀ o, wKeep o → I' o = I o) (hz : kZ g I') (hc : kC g c' 62 63 64 I') (he : kEn en' I') (hro : kRow ro' I' L') (hk : kMk t' I') : wC g c' fr nr rl ru nf fo en' tx tn kp kc wa ro' t' I' L' := by
  obtain ⟨h1, ⟨h2, h2'⟩, h3, h4, h5, h6, h7, h8, h9, h10, h11, h12⟩ := h
  have e40 : I' 40 = I 40 := ho 40 (Or.inl (by decide))
  refine ⟨hz, ⟨kD_of h2 (ho 43 (Or.inl (by decide))), kTx_of h2' (ho 41 (Or.inl (by decide))) (ho 42 (Or.inl (by decide)))⟩, hc, kKp_of h4 (fun o z _ => ho o ?_), kFr_of h5 (ho 69 ?_), kRs_of h6 (by rw [e40]) (by rw [e40]) (fun o z _ => ho o ?_), kFs_of h7 (by rw [e40]) (fun o z => ho o ?_), ?_, he, kWa_of h10 (by rw [e40]) (ho 95 ?_), hro, hk⟩
  · unfold wKeep; omega
  · unfold wKeep; omega
  · unfold wKeep; omega
  · unfold wKeep; omega
  · rw [ho 77 (by unfold wKeep; omega), ho 84 (by unfold wKeep; omega)]
    exact h8
  · unfold wKeep; omega
/-- the class's world stands where its rows do -/
theorem wC_hi {I I' : zI} {L L' : zL} (h : wC g c fr nr rl ru nf fo en tx tn kp kc wa ro t I L) (ho : ∀ o, 40 ≤ o → I' o = I o) (hL : L' 97 = L 97) : wC g c fr nr rl ru nf fo en tx tn kp kc wa ro t I' L' := wC_play h (fun o z => ho o (by unfold wKeep at z; omega)) (kZ_of h.1 (fun o z _ => ho o (by omega))) (kC_of h.2.2.1 (ho 63 (by decide)) (ho 64 (by decide)) (fun k _ => by rw [ho 62 (by decide)])) (kEn_of h.2.2.2.2.2.2.2.2.1 (ho 94 (by decide))) (kRow_of h.2.2.2.2.2.2.2.2.2.2.1 (ho 96 (by decide)) hL) (kMk_of h.2.2.2.2.2.2.2.2.2.2.2 (ho 89 (by decide)) (ho 91 (by decide)) (ho 92 (by decide)))
/-- the reference's world stands where its rows do -/
theorem wM_lo {I I' : zI} {L L' : zL} (h : wM g c fr nr rl ru nf fo en tx tn kp kc wa ro I L) (ho : ∀ o, o < 40 → I' o = I o) (hL : ∀ o, o < 40 → L' o = L o) : wM g c fr nr rl ru nf fo en tx tn kp kc wa ro I' L' := by
  unfold wM mG mPos mC mF mRl mFo mFo1 mE mTx mK mWa mRow
  rw [ho 0 (by decide), ho 1 (by decide), ho 2 (by decide), ho 3 (by decide), ho 4 (by decide), ho 5 (by decide), ho 6 (by decide), ho 7 (by decide), ho 8 (by decide), ho 9 (by decide), ho 10 (by decide), ho 11 (by decide), ho 12 (by decide), ho 14 (by decide), ho 15 (by decide), ho 16 (by decide), ho 29 (by decide), ho 30 (by decide), ho 31 (by decide), ho 32 (by decide), ho 36 (by decide), ho 37 (by decide), ho 38 (by decide), ho 39 (by decide), hL 13 (by decide), hL 17 (by decide)]
  exact h
theorem wM_34 {v : Int32} {I : zI} {L : zL} (h : wM g c fr nr rl ru nf fo en tx tn kp kc wa ro I L) : wM g c fr nr rl ru nf fo en tx tn kp kc wa ro (zup I 0 34 v) L := by
  obtain ⟨⟨h1, h1'⟩, ⟨h2, h2'⟩, h3, h4, h5, h6, h7, ⟨h8, h8'⟩, h9, h10, h11⟩ := h
  refine ⟨⟨mG_34 h1, mPos_34 h1'⟩, ⟨mC_34 h2, h2'⟩, mF_34 h3, mRl_34 h4, ?_, fun k hk => by rw [zup_ne (by decide)]; exact h6 k hk, ?_, ⟨fun i hi => by rw [zup_ne (by decide)]; exact h8 i hi, fun i hi z => ⟨mK_of (h8' i hi z).1 (zup_ne (by decide)) (zup_ne (by decide)) (zup_ne (by decide)), (h8' i hi z).2⟩⟩, mWa_34 h9, ?_, h11⟩
  · unfold mFo mFo1
    rw [zup_k (show 23 ≠ 34 by decide), zup_ne (show 10 ≠ 0 by decide), zup_ne (show 11 ≠ 0 by decide), zup_ne (show 12 ≠ 0 by decide), zup_ne (show 14 ≠ 0 by decide)]
    exact h5
  · unfold mTx
    rw [zup_k (show 31 ≠ 34 by decide), zup_ne (show 16 ≠ 0 by decide)]
    exact h7
  · unfold mRow
    rw [zup_k (show 33 ≠ 34 by decide)]
    exact h10
/-- a frame that keeps the settings -/
def wOk (t : Nat → Nat → Bool) : Prop := (∀ k, k < 9 → t 0 k = false) ∧ (t 0 18 = false ∧ t 0 22 = false ∧ t 0 23 = false ∧ t 0 31 = false ∧ t 0 66 = false) ∧ (∀ k, t 1 k = false ∧ t 2 k = false ∧ t 3 k = false ∧ t 7 k = false ∧ t 8 k = false ∧ t 9 k = false) ∧ (∀ k, t 10 k = false ∧ t 11 k = false ∧ t 12 k = false ∧ t 14 k = false ∧ t 16 k = false ∧ t 29 k = false) ∧ ∀ k, t 36 k = false ∧ t 37 k = false ∧ t 38 k = false ∧ t 39 k = false
/-- new chest, ends, row; all else is kept -/
theorem wM_t {c' : sC} {en' : Nat → Int32} {ro' : List Int64} {tb : Nat → Nat → Bool} {I I' : zI} {L L' : zL} (h : wM g c fr nr rl ru nf fo en tx tn kp kc wa ro I L) (hf : zFr tb I I') (ok : wOk tb) (h6 : ∀ s, s < 21 → I' 6 s = I 6 s) (hk : ∀ j c', j < 3 → mK j c' I → mK j c' I') (hL : L' 13 = L 13) (hc : mC c' I') (hi : cIn g c') (he : mE en' I') (hro : mRow ro' I' L') (hl : ro'.length ≤ 32) (h35 : I' 0 35 = 0) : wM g c' fr nr rl ru nf fo en' tx tn kp kc wa ro' I' L' := by
  obtain ⟨⟨h1, h1'⟩, ⟨h2, h2'⟩, h3, h4, h5, -, h7, ⟨h8, h8'⟩, h9, h10, h11⟩ := h
  obtain ⟨o1, ⟨o2, o3, o4, o5, o6⟩, o7, o8, o9⟩ := ok
  refine ⟨⟨⟨h1.1, fun k z => (hf 0 k (o1 k z)).trans (h1.2 k z)⟩, mPos_of h1' (zFr_row hf fun k => (o7 k).1) (zFr_row hf fun k => (o7 k).2.1) (zFr_row hf fun k => (o7 k).2.2.1)⟩, ⟨hc, hi⟩, fun s hs => ⟨(h6 s hs).trans (h3 s hs).1, (h3 s hs).2⟩, mRl_of h4 (hf 0 18 o2) (hf 0 22 o3) (zFr_row hf fun k => (o7 k).2.2.2.1) (zFr_row hf fun k => (o7 k).2.2.2.2.1) (zFr_row hf fun k => (o7 k).2.2.2.2.2), ?_, he, ?_, ⟨fun i z => (hf 29 i (o8 i).2.2.2.2.2).trans (h8 i z), fun i z w => ⟨hk i _ z (h8' i z w).1, (h8' i z w).2⟩⟩, mWa_of h9 (hf 0 66 o6) (zFr_row hf fun k => (o9 k).1) (zFr_row hf fun k => (o9 k).2.1) (zFr_row hf fun k => (o9 k).2.2.1) (zFr_row hf fun k => (o9 k).2.2.2), ⟨hro, hl⟩, h35⟩
  · unfold mFo mFo1
    rw [hf 0 23 o4, zFr_row (o := 10) hf fun k => (o8 k).1, zFr_row (o := 11) hf fun k => (o8 k).2.1, zFr_row (o := 12) hf fun k => (o8 k).2.2.1, zFr_row (o := 14) hf fun k => (o8 k).2.2.2.1, hL]
    exact h5
  · unfold mTx
    rw [hf 0 31 o5, zFr_row (o := 16) hf fun k => (o8 k).2.2.2.2.1]
    exact h7
end
