-- ===== the class: a game =====
def kMs (X M : Nat) (ts : List Nat) (I : zI) : Prop := I X 3 = nI ts.length ∧ ∀ j t, ts[j]? = some t → I M j = nI t
def pMt (X M A K W O B P o k : Nat) : Prop := pDm X A K W O B P o k ∨ o = M ∨ (o = X ∧ k = 3)
theorem pMt_no {X M A K W O B P o k : Nat} (h : o ≠ X ∧ o ≠ M ∧ o ≠ A ∧ o ≠ K ∧ o ≠ W ∧ o ≠ O ∧ o ≠ B ∧ o ≠ P) (h2 : o ≠ 79 ∧ o ≠ 86 ∧ o ≠ 87) : ¬ pMt X M A K W O B P o k := by
  obtain ⟨h1, hM, hA, hK, hW, hO, hB, hP⟩ := h
  obtain ⟨h79, h86, h87⟩ := h2
  rintro ((z | z | z | z | z | z | z | z | z | z) | z | z)
  · exact hB z
  · exact hP z
  · exact hO z.1
  · exact hA z
  · exact hK z
  · exact hW z
  · exact h1 z.1
  · exact h79 z.1
  · exact h86 z
  · exact h87 z
  · exact hM z
  · exact h1 z.1
theorem pMt_far {X M A K W N O B P o k : Nat} (hX : kXo X M A K W N O B P) (h : o ≤ 61 ∨ 88 ≤ o ∨ o = 69 ∨ o = 78 ∨ o = N) : ¬ pMt X M A K W O B P o k := by
  obtain ⟨⟨e1, e2, e3, e4, e5, e6, e7, e8, e9⟩, n79, -, -, nN, ⟨a1, a2, a3, a4, a5, a6, a7, a8⟩, ⟨c1, c2, c3, c4, c5, c6, c7, c8⟩⟩ := kXo_f hX
  rcases h with h | h | h | h | h
  · exact pMt_no ⟨by omega, by omega, by omega, by omega, by omega, by omega, by omega, by omega⟩ ⟨by omega, by omega, by omega⟩
  · exact pMt_no ⟨by omega, by omega, by omega, by omega, by omega, by omega, by omega, by omega⟩ ⟨by omega, by omega, by omega⟩
  · subst h
    exact pMt_no ⟨a1.symm, a2.symm, a3.symm, a4.symm, a5.symm, a6.symm, a7.symm, a8.symm⟩ ⟨by decide, by decide, by decide⟩
  · subst h
    exact pMt_no ⟨c1.symm, c2.symm, c3.symm, c4.symm, c5.symm, c6.symm, c7.symm, c8.symm⟩ ⟨by decide, by decide, by decide⟩
  · subst h
    exact pMt_no nN ⟨n79.2.2.2.2.1, by omega, by omega⟩
theorem pDm_X3 {X M A K W N O B P : Nat} (hX : kXo X M A K W N O B P) : ¬ pDm X A K W O B P X 3 := by
  obtain ⟨-, -, nA, -, -, -, -⟩ := kXo_f hX
  rintro (z | z | z | z | z | z | z | z | z | z)
  · exact nA.2.2.2.1.2.2 z.symm
  · exact nA.2.2.2.2.1.2.2 z.symm
  · exact nA.2.2.2.2.2.1.2.2 z.1.symm
  · exact nA.2.1 z.symm
  · exact nA.2.2.1 z.symm
  · exact nA.2.2.2.2.2.2.2.2.2.1 z.symm
  · omega
  · omega
  · unfold kXo at hX
    omega
  · unfold kXo at hX
    omega
theorem pDm_M {X M A K W N O B P k : Nat} (hX : kXo X M A K W N O B P) : ¬ pDm X A K W O B P M k := by
  obtain ⟨hge, n79, -, nM, -, -, -⟩ := kXo_f hX
  rintro (z | z | z | z | z | z | z | z | z | z)
  · exact nM.2.2.2.2.2.1 z
  · exact nM.2.2.2.2.2.2 z
  · exact nM.2.2.2.2.1 z.1
  · exact nM.2.1 z
  · exact nM.2.2.1 z
  · exact nM.2.2.2.1 z
  · exact nM.1 z.1
  · exact n79.1 z.1
  · exact absurd z.symm (g86 hge.2.1)
  · exact absurd z.symm (g87 hge.2.1)
def kRv (rl : zrl) (ru : Option Nat) (rv : Value) (RO RA RT : Nat) (I : zI) : Prop := match ru with
  | none => rv = .null
  | some r => rv = .ref RO ∧ kRo RO RA RT ∧ kRu RO RA RT (rl.1 r, rl.2.1 r, rl.2.2 r) I ∧ rsOk (rl.1 r, rl.2.1 r, rl.2.2 r)
theorem kRv_of {rl : zrl} {ru : Option Nat} {rv : Value} {RO RA RT : Nat} {I I' : zI} (h : kRv rl ru rv RO RA RT I) (ho : ∀ o, 88 ≤ o → I' o = I o) : kRv rl ru rv RO RA RT I' := by
  cases ru with
  | none => exact h
  | some r =>
    obtain ⟨h1, h2, h3, h4⟩ := h
    have hh := kRo_hi h2
    exact ⟨h1, h2, kRu_of h3 (ho _ (by omega)) (ho _ (by omega)) (ho _ (by omega)), h4⟩
/-- a run: how it ended, to the chest; what the game answers -/
abbrev zgs (τ : Type) : Type := Nat × (sC × τ) × List (Nat × Nat) × List Nat × Option Nat
def gHow {τ : Type} (g : zg) (S : zgs τ) : Nat := match S.2.2.2.2 with
  | some _ => 0
  | none => sEnd g S.1
def gAns {τ : Type} (g : zg) (S : zgs τ) : Nat := match S.2.2.2.2 with
  | some _ => 3
  | none => gHow g S
def gPaid {τ : Type} (g : zg) (rl : zrl) (ru : Option Nat) (S : zgs τ) : sC := sPayAll g rl ru (gHow g S) S.2.2.1 S.2.2.2.2 S.2.1.1
theorem sWT_end {g : zg} {p : Nat} (h : 2 ≤ sWork g p) (v : Nat) : sWT (sWork g p) v (g 8) = sEnd g p := by
  unfold sWT sEnd
  rw [if_neg (by omega)]
section
variable {G : zG} {n : Nat} {I : zI} {L : zL} {q : zq} {post : zPo} {g : zg}
theorem k_goes1 {p : Nat} (hL : kLay g I) (hr : sR g p) (hw : sWork g p < 2) (h : post (some (.int 1)) I L (zR1 q)) : zC G (n + 1) 217 [.ref 44, .int (nI p)] I L (zR1 q) post := by
  have h19 := sR_lt hL.1.1 hr
  refine k_goesOnL hL (fun _ _ _ _ => h) (fun z => ?_)
  have := z p rfl (by omega) hr
  omega
theorem k_goes0 {p : Nat} (hL : kLay g I) (hr : sR g p) (hw : 2 ≤ sWork g p) (h : post (some (.int 0)) I L (zR1 q)) : zC G (n + 1) 217 [.ref 44, .int (nI p)] I L (zR1 q) post := by
  have h19 := sR_lt hL.1.1 hr
  refine k_goesOnL hL (fun p' e hr' hw' => ?_) (fun _ => h)
  have h19' := sR_lt hL.1.1 hr'
  have e2 := nI_inj (by omega) (by omega) e
  subst e2
  omega
theorem k_stateP {p : Nat} (hL : kLay g I) (hr : sR g p) (h : post (some (.int (nI (sWork g p)))) I L (zR1 q)) : zC G (n + 1) 216 [.ref 44, .int (nI p)] I L (zR1 q) post := by
  have h19 := sR_lt hL.1.1 hr
  refine k_stateL hL (fun p' e hr' => ?_) (fun z => absurd hr (z p rfl (by omega)))
  have h19' := sR_lt hL.1.1 hr'
  have e2 := nI_inj (by omega) (by omega) e
  subst e2
  exact h
theorem sDep_pos (hg : gOk g) {p : Nat} (hw : sWork g p < 2) : 0 < sDep g p := by
  have h9 := sCn_9 hg hw
  have := sDep_lt hg (sNth_legal hg (p := p) (j := 0) h9.1).2
  omega
end
section
variable {τ : Type} {G : zG} {n : Nat} {I : zI} {L : zL} {q : zq} {post : zPo} {g : zg} {F : zfo} {fr : Nat → Nat} {T : τ → zI → zL → Prop} {V : sC × τ → (Nat → Nat) → Nat → Prop} {pf : sC × τ → (Nat → Nat) → Nat → Nat × (sC × τ)} {X M A K W N O B P fA FO FA FB FC FD RO RA RT : Nat} {rl : zrl} {ru : Option Nat} {rv : Value}
set_option maxHeartbeats 4000000 in
set_option maxRecDepth 8000 in
/-- a move is made -/
theorem k_made {s : sC × τ} {p mv : Nat} {ds : List (Nat × Nat)} {ts : List Nat} {w7 : Int32} {v8 : Option Value} (hX : kXo X M A K W N O B P) (hrv : rv = .null ∨ ∃ o, rv = .ref o) (hT : kTst T) (hL : kLay g I) (hr : sR g p) (hw : sWork g p < 2) (hm : sCan g p mv = true) (hl : ts.length < 20) (hc : kC g s.1 O B P I) (ht : T s.2 I L) (hds : kDn g X A K ds I) (hms : kMs X M ts I) (h7 : I X 7 = -1) (h : ∀ (I' : zI) (v8 : Option Value), kC g s.1 O B P I' → T s.2 I' L → kDn g X A K ds I' → kMs X M (ts ++ [mv]) I' → I' X 7 = -1 → pFr (pMt X M A K W O B P) I I' → zQ G 148 (n + 4) post 27 [some (.ref X), some (.ref O), some (.ref FO), some rv, some (.ref fA), some (.int (nI (sBeh g p mv))), some (.int (nI (ts ++ [mv]).length)), some (.int w7), v8] [] I' L (zR1 q)) : zQ G 148 (n + 4) post 100 [some (.ref X), some (.ref O), some (.ref FO), some rv, some (.ref fA), some (.int (nI p)), some (.int (nI ts.length)), some (.int w7), v8] [.int (nI mv)] I L (zR1 q) := by
  have hg := hL.1.1
  have h19 := sR_lt hg hr
  have mm := sMM_pos hg
  have hmv := sCan_lt hm
  obtain ⟨hge, n79, nA, nM, nN, -, -⟩ := kXo_f hX
  have vl : vp_in (nI ts.length) 20 := vp_in_nI hl (by decide)
  have hcl : (nI ts.length).toNatClampNeg = ts.length := nI_clamp (by omega)
  have kOn : ∀ J : zI, (∀ o, o ≠ M → o ≠ X → J o = I o) → J M = zup I M ts.length (nI mv) M → (∀ k, k ≠ 3 → J X k = I X k) → J X 3 = nI (ts.length + 1) → ∀ v8 : Option Value, kLay g J ∧ zQ G 148 (n + 4) post 27 [some (.ref X), some (.ref O), some (.ref FO), some rv, some (.ref fA), some (.int (nI (sBeh g p mv))), some (.int (nI (ts.length + 1))), some (.int w7), v8] [] J L (zR1 q) := by
    intro J jo jM jx j3 v8
    have jf : pFr (pMt X M A K W O B P) I J := fun o k z => by
      by_cases c1 : o = M
      · exact absurd (.inr (.inl c1)) z
      by_cases c2 : o = X
      · subst c2
        by_cases c3 : k = 3
        · exact absurd (.inr (.inr ⟨rfl, c3⟩)) z
        · exact jx k c3
      · rw [jo o c1 c2]
    refine ⟨kLay_of hL (fun o z1 z2 => funext fun k => jf o k (pMt_far hX (by omega))), ?_⟩
    have j79 : ∀ k, k ≠ 3 → J 79 k = I 79 k := fun k hk => by
      by_cases z : X = 79
      · rw [← z]
        exact jx k hk
      · rw [jo 79 (Ne.symm n79.1) (fun w => z w.symm)]
    have hh := h J v8 (kC_of hc (jo B (Ne.symm nM.2.2.2.2.2.1) nA.2.2.2.1.2.2) (jo P (Ne.symm nM.2.2.2.2.2.2) nA.2.2.2.2.1.2.2) (fun k _ => by rw [jo O (Ne.symm nM.2.2.2.2.1) nA.2.2.2.2.2.1.2.2])) (hT _ _ _ _ _ ht (j79 13 (by decide)) (j79 14 (by decide)) (jo 86 (g86 hge.2.1) (g86 hge.1)) (jo 87 (g87 hge.2.1) (g87 hge.1)) rfl) (kDn_of hds (jx 6 (by decide)) (jo A (Ne.symm nM.2.1) nA.2.1) (jo K (Ne.symm nM.2.2.1) nA.2.2.1)) ⟨by rw [j3, snoc_len], fun j t hj => ?_⟩ ((jx 7 (by decide)).trans h7) jf
    · rw [snoc_len] at hh
      exact hh
    · rw [jM, zup_eq]
      by_cases c : j = ts.length
      · subst c
        rw [List.getElem?_append_right (Nat.le_refl _), Nat.sub_self] at hj
        injection hj with hj
        rw [if_pos rfl, hj]
      · have hj2 : j < ts.length := by
          have := (List.getElem?_eq_some_iff.mp hj).1
          rw [snoc_len] at this
          omega
        rw [List.getElem?_append_left hj2] at hj
        rw [if_neg c]
        exact hms.2 j t hj
  have e3 : zup I M ts.length (nI mv) X 3 + 1 = nI (ts.length + 1) := by rw [zup_ne (Ne.symm nM.1), hms.1, nI_1]
  have nXM : X ≠ M := Ne.symm nM.1
  have kk : ∀ v : Int32, v = nI (ts.length + 1) → ∀ v8 : Option Value, kLay g (zup (zup I M ts.length (nI mv)) X 3 v) ∧ zQ G 148 (n + 4) post 27 [some (.ref X), some (.ref O), some (.ref FO), some rv, some (.ref fA), some (.int (nI (sBeh g p mv))), some (.int (nI (ts.length + 1))), some (.int w7), v8] [] (zup (zup I M ts.length (nI mv)) X 3 v) L (zR1 q) := fun v hv v8 => kOn (zup (zup I M ts.length (nI mv)) X 3 v) (fun o z1 z2 => by rw [zup_ne z2, zup_ne z1]) (by rw [zup_ne nM.1]) (fun k hk => by rw [zup_k hk, zup_ne nXM]) (by rw [zup_self]; exact hv) v8
  have k2 := kk _ e3 (some (.int (nI mv)))
  rw [← nI_1] at k2
  rcases hX with ⟨x1, x2, x3, x4, y5, y6, x7, x8, x9⟩ | ⟨x1, x2, x3, x4, y5, y6, x7, x8, x9⟩ | ⟨x1, x2, x3, x4, y5, y6, x7, x8, x9⟩ <;> (
    subst x1 x2 x3 x4 y5 y6 x7 x8 x9
    rcases hrv with rfl | ⟨o, rfl⟩ <;> (
      refine b148_100 (And.intro (fun _ => b148_110 (And.intro vl ?_)) (fun z => absurd (Int32.not_lt.mp (nI_pos (by omega))) z))
      rw [hcl]
      refine And.intro rfl (k_nextL k2.1 hr hw hm ?_)
      exact k2.2))
set_option maxHeartbeats 4000000 in
set_option maxRecDepth 8000 in
theorem k_meet {s : sC × τ} (hX : kXo X M A K W N O B P) (hO : kFb FO FA FB FC FD) (hok : foOk F) (hF : kFo FO FA FB FC FD F I) (hpk : ∀ m, kPK G m X g O B P q T V pf) (hT : kTst T) (hpf : kPf V pf) (hfA : kAr fA 21 ∧ (fA = 69 ∨ fA = 78)) (hL : kLay g I) (hfr : kFr fr fA I) (hone : ∀ k, k < 9 → I N k = 1) (hru : kRv rl ru rv RO RA RT I) (hc : kC g s.1 O B P I) (ht : T s.2 I L) (hin : cIn g s.1) (hV : gVR V pf g fr F 21 (sFirst g) s) (h : ∀ (I' : zI) (L' : zL), kC g (gPaid g rl ru (gRun pf g fr F 21 (sFirst g) s [] [])) O B P I' → T (gRun pf g fr F 21 (sFirst g) s [] []).2.1.2 I' L' → kMs X M (gRun pf g fr F 21 (sFirst g) s [] []).2.2.2.1 I' → kDn g X A K (gRun pf g fr F 21 (sFirst g) s [] []).2.2.1 I' → kSk g X (gRun pf g fr F 21 (sFirst g) s [] []).2.2.2.2 I' → pFr (pMt X M A K W O B P) I I' → lPk L L' → post (some (.int (nI (gAns g (gRun pf g fr F 21 (sFirst g) s [] []))))) I' L' (zR1 q)) : zC G (n + 5) 148 [.ref X, .ref O, .ref FO, rv, .ref fA] I L (zR1 q) post := by
  have hg := hL.1.1
  have g8 := hg.2.2.2.2.2.2.2.2
  have hcO := kXo_co hX
  have hX' := hX
  obtain ⟨hge, n79, nA, nM, nN, -, -⟩ := kXo_f hX
  have fhi := kFb_hi hO
  have hrv : rv = .null ∨ ∃ o, rv = .ref o := by
    cases ru with
    | none => exact .inl hru
    | some r => exact .inr ⟨RO, hru.1⟩
  have hfin := gRun_end (fr := fr) hg hpf hok 21 (sFirst g) s [] [] (by have := sDep_first g hg; omega) (pInv_0 hg hin) hV
  generalize hS : gRun pf g fr F 21 (sFirst g) s [] [] = S at *
  have stat : ∀ J : zI, pFr (pMt X M A K W O B P) I J → kLay g J ∧ kFr fr fA J ∧ kFo FO FA FB FC FD F J ∧ (∀ k, k < 9 → J N k = 1) ∧ kRv rl ru rv RO RA RT J := by
    intro J jf
    have row : ∀ o, (o ≤ 61 ∨ 88 ≤ o ∨ o = 69 ∨ o = 78 ∨ o = N) → J o = I o := fun o z => funext fun k => jf o k (pMt_far hX' z)
    refine ⟨kLay_of hL (fun o _ z2 => row o (.inl z2)), ?_, ?_, ?_, kRv_of hru (fun o z => row o (.inr (.inl z)))⟩
    · intro i hi
      rw [row fA (hfA.2.elim (fun z => .inr (.inr (.inl z))) (fun z => .inr (.inr (.inr (.inl z)))))]
      exact hfr i hi
    · unfold kFo
      rw [row FO (.inr (.inl (by omega))), row FA (.inr (.inl (by omega))), row FB (.inr (.inl (by omega))), row FC (.inr (.inl (by omega))), row FD (.inr (.inl (by omega)))]
      exact hF
    · intro k hk
      rw [row N (.inr (.inr (.inr (.inr rfl))))]
      exact hone k hk
  -- the end
  have at148 : ∀ (J : zI) (L1 : zL) (i5 i6 : Int32) (v7 v8 : Option Value), (S.2.2.2.2 = none → i5 = nI S.1) → (S.2.2.2.2 ≠ none → S.2.2.1.length < 20) → kC g S.2.1.1 O B P J → T S.2.1.2 J L1 → kDn g X A K S.2.2.1 J → kMs X M S.2.2.2.1 J → kSk g X S.2.2.2.2 J → pFr (pMt X M A K W O B P) I J → lPk L L1 → zQ G 148 (n + 4) post 148 [some (.ref X), some (.ref O), some (.ref FO), some rv, some (.ref fA), some (.int i5), some (.int i6), v7, v8] [] J L1 (zR1 q) := by
    intro J L1 i5 i6 v7 v8 h5 hsk jc jt jd jm js jf jl
    obtain ⟨⟨i1, i2, i3, i4, i7⟩, e1, e2⟩ := hfin
    obtain ⟨LJ, -, -, -, rJ⟩ := stat J jf
    have hw3 : gHow g S ≤ 2 := by
      unfold gHow
      split
      · omega
      · exact sEnd_le g _
    -- behind the paying
    have at195 : ∀ (J2 : zI) (v7 v8 : Option Value), kC g (gPaid g rl ru S) O B P J2 → zFr (tCh O B P) J J2 → zQ G 148 (n + 4) post 195 [some (.ref X), some (.ref O), some (.ref FO), some rv, some (.ref fA), some (.int i5), some (.int (nI (gHow g S))), v7, v8] [] J2 L1 (zR1 q) := by
      intro J2 v7 v8 c2 f2
      have ro : ∀ o, o ≠ B → o ≠ P → o ≠ O → J2 o = J o := fun o z1 z2 z3 => ch_row f2 z1 z2 z3
      have rX := ro X (Ne.symm nA.2.2.2.1.2.2) (Ne.symm nA.2.2.2.2.1.2.2) (Ne.symm nA.2.2.2.2.2.1.2.2)
      have t2 := hT _ _ _ J2 L1 jt (by rw [ro 79 (Ne.symm n79.2.2.2.2.2.2.1) (Ne.symm n79.2.2.2.2.2.2.2) (Ne.symm n79.2.2.2.2.2.1)]) (by rw [ro 79 (Ne.symm n79.2.2.2.2.2.2.1) (Ne.symm n79.2.2.2.2.2.2.2) (Ne.symm n79.2.2.2.2.2.1)]) (ro 86 (g86 hge.2.2.2.2.2.2.2.1) (g86 hge.2.2.2.2.2.2.2.2) (g86 hge.2.2.2.2.2.2.1)) (ro 87 (g87 hge.2.2.2.2.2.2.2.1) (g87 hge.2.2.2.2.2.2.2.2) (g87 hge.2.2.2.2.2.2.1)) rfl
      have f3 : pFr (pMt X M A K W O B P) I J2 := pFr_tr jf (pFr_z f2 fun o k z => .inl (pDm_ch (tCh_p z)))
      have hh := h J2 L1 c2 t2 (by
        unfold kMs
        rw [rX, ro M nM.2.2.2.2.2.1 nM.2.2.2.2.2.2 nM.2.2.2.2.1]
        exact jm) (kDn_of jd (by rw [rX]) (ro A (Ne.symm nA.2.2.2.1.1) (Ne.symm nA.2.2.2.2.1.1) (Ne.symm nA.2.2.2.2.2.1.1)) (ro K (Ne.symm nA.2.2.2.1.2.1) (Ne.symm nA.2.2.2.2.1.2.1) (Ne.symm nA.2.2.2.2.2.1.2.1))) (kSk_of js (by rw [rX])) f3 jl
      have js2 : kSk g X S.2.2.2.2 J2 := kSk_of js (by rw [rX])
      unfold gAns at hh
      cases em : S.2.2.2.2 with
      | none =>
        rw [em] at hh js2
        have j7 : J2 X 7 = -1 := js2
        have lt : J2 X 7 < 0 := by rw [j7]; decide
        rcases hX with ⟨x1, x2, x3, x4, y5, y6, x7, x8, x9⟩ | ⟨x1, x2, x3, x4, y5, y6, x7, x8, x9⟩ | ⟨x1, x2, x3, x4, y5, y6, x7, x8, x9⟩ <;> (
          subst x1 x2 x3 x4 y5 y6 x7 x8 x9
          exact b148_195 (And.intro (fun _ => b148_206 (b148_208 hh)) (fun z => absurd lt z)))
      | some b =>
        rw [em] at hh js2
        obtain ⟨p, j7, j8, -⟩ := js2
        have h19 := sR_lt hg j8
        have lt : ¬ J2 X 7 < 0 := by rw [j7]; exact nI_pos (by omega)
        rcases hX with ⟨x1, x2, x3, x4, y5, y6, x7, x8, x9⟩ | ⟨x1, x2, x3, x4, y5, y6, x7, x8, x9⟩ | ⟨x1, x2, x3, x4, y5, y6, x7, x8, x9⟩ <;> (
          subst x1 x2 x3 x4 y5 y6 x7 x8 x9
          exact b148_195 (And.intro (fun z => absurd z lt) (fun _ => b148_208 hh)))
    -- paying
    have at175 : ∀ (v6 v7 v8 : Option Value), zQ G 148 (n + 4) post 175 [some (.ref X), some (.ref O), some (.ref FO), some rv, some (.ref fA), some (.int i5), v6, v7, v8] [.int (nI (gHow g S))] J L1 (zR1 q) := by
      intro v6 v7 v8
      cases hr : ru with
      | none =>
        subst hr
        have rJ : rv = .null := rJ
        subst rJ
        exact b148_175 (at195 J _ _ jc (zFr_0 _ _))
      | some r =>
        subst hr
        obtain ⟨rv1, rR, rK, rO⟩ := rJ
        subst rv1
        obtain ⟨p1, p2⟩ := sPays_in hg (rl := rl) (r := r) (e := gHow g S) S.2.2.1 0 S.2.1.1 i2 i3
        have pd : gPaid g rl (some r) S = _ := sPayAll_some g rl r (gHow g S) S.2.2.1 S.2.2.2.2 S.2.1.1
        rw [pd] at at195
        have rk : ∀ J2 : zI, zFr (tCh O B P) J J2 → kLay g J2 ∧ kRu RO RA RT (rl.1 r, rl.2.1 r, rl.2.2 r) J2 ∧ kDn g X A K S.2.2.1 J2 ∧ kSk g X S.2.2.2.2 J2 := fun J2 f2 => by
          have ro : ∀ o, o ≠ B → o ≠ P → o ≠ O → J2 o = J o := fun o z1 z2 z3 => ch_row f2 z1 z2 z3
          have rhi := kRo_hi rR
          have rX := ro X (Ne.symm nA.2.2.2.1.2.2) (Ne.symm nA.2.2.2.2.1.2.2) (Ne.symm nA.2.2.2.2.2.1.2.2)
          exact ⟨kLay_of LJ (fun o _ z2 => ro o (by omega) (by omega) (by omega)), kRu_of rK (ro _ (by omega) (by omega) (by omega)) (ro _ (by omega) (by omega) (by omega)) (ro _ (by omega) (by omega) (by omega)), kDn_of jd (by rw [rX]) (ro A (Ne.symm nA.2.2.2.1.1) (Ne.symm nA.2.2.2.2.1.1) (Ne.symm nA.2.2.2.2.2.1.1)) (ro K (Ne.symm nA.2.2.2.1.2.1) (Ne.symm nA.2.2.2.2.1.2.1) (Ne.symm nA.2.2.2.2.2.1.2.1)), kSk_of js (by rw [rX])⟩
        have l20 : S.2.2.1.length ≤ 20 := by omega
        have rw1 := fun post' hp => k_reward (G := G) (n := n + 1) (I := J) (L := L1) (q := q) (post := post') hX' rR rK rO (e := gHow g S) (by omega) LJ jc i2 jd l20 i3 hp
        have rf := fun J2 (c2 : kC g (sPays rl r (gHow g S) S.2.2.1 0 S.2.1.1) O B P J2) (f2 : zFr (tCh O B P) J J2) post' hp => k_refill (G := G) (n := n) (I := J2) (L := L1) (q := q) (post := post') (em := S.2.2.2.2) hX' rR (rk J2 f2).2.1 rO (rk J2 f2).1 c2 p1 (rk J2 f2).2.2.1 (rk J2 f2).2.2.2 l20 hsk (fun d hd => by rw [p2]; exact (i3 d hd).1) (fun b hb => by rw [p2]; exact e2 b hb) hp
        rcases hX with ⟨x1, x2, x3, x4, y5, y6, x7, x8, x9⟩ | ⟨x1, x2, x3, x4, y5, y6, x7, x8, x9⟩ | ⟨x1, x2, x3, x4, y5, y6, x7, x8, x9⟩ <;> (
          subst x1 x2 x3 x4 y5 y6 x7 x8 x9
          exact b148_175 (rw1 _ (fun J2 c2 f2 => rf J2 c2 f2 _ (fun J3 c3 f3 => at195 J3 _ _ c3 (zFr_tr f2 f3)))))
    unfold gHow at at175
    cases em : S.2.2.2.2 with
    | none =>
      rw [em] at at175 js
      have j7 : J X 7 = -1 := js
      have lt : J X 7 < 0 := by rw [j7]; decide
      have e5 := h5 em
      subst e5
      have wt := fun post' hp => k_worthToL (G := G) (n := n + 3) (I := J) (L := L1) (q := q) (post := post') LJ i1 (s := g 8) (by omega) hp
      rw [sWT_end (e1 em), ← LJ.2.2.2] at wt
      rcases hX with ⟨x1, x2, x3, x4, y5, y6, x7, x8, x9⟩ | ⟨x1, x2, x3, x4, y5, y6, x7, x8, x9⟩ | ⟨x1, x2, x3, x4, y5, y6, x7, x8, x9⟩ <;> (
        subst x1 x2 x3 x4 y5 y6 x7 x8 x9
        exact b148_148 (And.intro (fun _ => b148_159 (wt _ (at175 _ _ _))) (fun z => absurd lt z)))
    | some b =>
      rw [em] at at175 js
      obtain ⟨p, j7, j8, -⟩ := js
      have h19 := sR_lt hg j8
      have lt : ¬ J X 7 < 0 := by rw [j7]; exact nI_pos (by omega)
      rcases hX with ⟨x1, x2, x3, x4, y5, y6, x7, x8, x9⟩ | ⟨x1, x2, x3, x4, y5, y6, x7, x8, x9⟩ | ⟨x1, x2, x3, x4, y5, y6, x7, x8, x9⟩ <;> (
        subst x1 x2 x3 x4 y5 y6 x7 x8 x9
        exact b148_148 (And.intro (fun z => absurd z lt) (fun _ => at175 _ _ _)))
  have key : ∀ (m p : Nat) (s' : sC × τ) (ds : List (Nat × Nat)) (ts : List Nat) (J : zI) (L1 : zL) (v7 v8 : Option Value), sDep g p < m → pInv g p s'.1 ds ts → gVR V pf g fr F m p s' → gRun pf g fr F m p s' ds ts = S → kC g s'.1 O B P J → T s'.2 J L1 → kDn g X A K ds J → kMs X M ts J → J X 7 = -1 → pFr (pMt X M A K W O B P) I J → lPk L L1 → zQ G 148 (n + 4) post 27 [some (.ref X), some (.ref O), some (.ref FO), some rv, some (.ref fA), some (.int (nI p)), some (.int (nI ts.length)), v7, v8] [] J L1 (zR1 q) := by
    intro m
    induction m with
    | zero => intro p s' ds ts J L1 v7 v8 hd; exact absurd hd (Nat.not_lt_zero _)
    | succ m ih =>
      intro p s' ds ts J L1 v7 v8 hd hi hv hg' jc jt jd jm j7 jf jl
      obtain ⟨LJ, fJ, FJ, oJ, rJ⟩ := stat J jf
      have ir := hi.1
      have il := hi.2.2.2.1
      have ilen := hi.2.2.2.2
      have h19 := sR_lt hg ir
      rw [gRun] at hg'
      by_cases c : sWork g p < 2
      · have dp := sDep_pos hg c
        rw [if_pos c] at hg'
        obtain ⟨v1, v2⟩ := hv c
        have s8 := LJ.2.2.2
        have gw := fun post' hp => k_goes1 (G := G) (n := n + 3) (I := J) (L := L1) (q := q) (post := post') LJ ir c hp
        have stw := fun post' hp => k_stateP (G := G) (n := n + 3) (I := J) (L := L1) (q := q) (post := post') LJ ir hp
        have w4 := sWork_le g p
        -- the next position
        have on : ∀ (s2 : sC × τ) (ds2 : List (Nat × Nat)) (mv : Nat) (J2 : zI) (L2 : zL) (w7 : Int32) (v8 : Option Value), sCan g p mv = true → pInv g (sBeh g p mv) s2.1 ds2 (ts ++ [mv]) → gVR V pf g fr F m (sBeh g p mv) s2 → gRun pf g fr F m (sBeh g p mv) s2 ds2 (ts ++ [mv]) = S → kC g s2.1 O B P J2 → T s2.2 J2 L2 → kDn g X A K ds2 J2 → kMs X M ts J2 → J2 X 7 = -1 → pFr (pMt X M A K W O B P) I J2 → lPk L L2 → zQ G 148 (n + 4) post 100 [some (.ref X), some (.ref O), some (.ref FO), some rv, some (.ref fA), some (.int (nI p)), some (.int (nI ts.length)), some (.int w7), v8] [.int (nI mv)] J2 L2 (zR1 q) := by
          intro s2 ds2 mv J2 L2 w7 v8 hm i2 w2 g2 c2 t2 d2 m2 x7 f2 l2
          have dl := sDep_lt hg hm
          exact k_made (s := s2) hX' hrv hT (stat J2 f2).1 ir c hm (by omega) c2 t2 d2 m2 x7 fun J3 v8 c3 t3 d3 m3 y7 f3 => ih _ s2 ds2 _ J3 L2 _ _ (by omega) i2 w2 g2 c3 t3 d3 m3 y7 (pFr_tr f2 f3) l2
        by_cases c2 : sWork g p = g 8
        · rw [if_pos c2] at hg'
          have dm := fun post' a b => k_drawMove (G := G) (n := n + 1) (I := J) (L := L1) (q := q) (post := post') (s := s') (dn := ds.length) hX' (hpk (n + 1)) hT hpf hfA LJ fJ jc jt hi.2.1 ir c2 jd.1 (by omega) (fun z => (v1 c2 z).1) a b
          have stuck : ∀ (J2 : zI) (v7 v8 : Option Value), sInB (sOpn g fr s'.1 (sBox g p)) (sBox g p) = 0 → kC g (sOpn g fr s'.1 (sBox g p)) O B P J2 → T s'.2 J2 L1 → J2 X 7 = nI p → J2 X 6 = nI ds.length → J2 A = J A → J2 K = J K → pFr (pDm X A K W O B P) J J2 → zQ G 148 (n + 4) post 148 [some (.ref X), some (.ref O), some (.ref FO), some rv, some (.ref fA), some (.int (nI p)), some (.int (nI ts.length)), v7, v8] [] J2 L1 (zR1 q) := by
            intro J2 v7 v8 c3 k2 t2 x7 x6 rA rK f2
            rw [if_pos c3] at hg'
            subst hg'
            refine at148 J2 L1 _ _ _ _ (fun z => by cases z) (fun _ => by show ds.length < 20; omega) k2 t2 (kDn_of jd (by rw [x6, jd.1]) rA rK) ?_ ⟨p, x7, ir, c2, rfl⟩ (pFr_tr jf (pFr_le f2 fun o k z => .inl z)) jl
            refine ⟨(f2 X 3 ?_).trans jm.1, fun j t hj => (f2 M j ?_).trans (jm.2 j t hj)⟩
            · exact pDm_X3 hX'
            · exact pDm_M hX'
          have moved : ∀ (J2 : zI) (L2 : zL) (w7 : Int32) (v8 : Option Value), sInB (sOpn g fr s'.1 (sBox g p)) (sBox g p) ≠ 0 → kC g (gOw pf (sOpn g fr s'.1 (sBox g p)) s'.2 (sBox g p)).2.1 O B P J2 → T (gOw pf (sOpn g fr s'.1 (sBox g p)) s'.2 (sBox g p)).2.2 J2 L2 → J2 X 7 = J X 7 → J2 X 6 = nI (ds.length + 1) → J2 A ds.length = nI p → (∀ j, j ≠ ds.length → J2 A j = J A j) → J2 K ds.length = nI (gOw pf (sOpn g fr s'.1 (sBox g p)) s'.2 (sBox g p)).1 → (∀ j, j ≠ ds.length → J2 K j = J K j) → pFr (pDm X A K W O B P) J J2 → lPk L1 L2 → zQ G 148 (n + 4) post 100 [some (.ref X), some (.ref O), some (.ref FO), some rv, some (.ref fA), some (.int (nI p)), some (.int (nI ts.length)), some (.int w7), v8] [.int (nI (sMv g p (gOw pf (sOpn g fr s'.1 (sBox g p)) s'.2 (sBox g p)).1))] J2 L2 (zR1 q) := by
            intro J2 L2 w7 v8 c3 k2 t2 x7 x6 a1 a2 b1 b2 f2 l2
            rw [if_neg c3] at hg'
            obtain ⟨w1, w2⟩ := v1 c2 c3
            obtain ⟨m1, m2⟩ := gInv_own hg hpf (fr := fr) hi c2 c c3 w1
            refine on _ _ _ J2 L2 w7 v8 m1 m2 w2 hg' k2 t2 ⟨by rw [x6, snoc_len], fun j d hj => ?_⟩ ⟨(f2 X 3 (pDm_X3 hX')).trans jm.1, fun j t hj => (f2 M j (pDm_M hX')).trans (jm.2 j t hj)⟩ (x7.trans j7) (pFr_tr jf (pFr_le f2 fun o k z => .inl z)) (lPk_tr jl l2)
            by_cases e : j = ds.length
            · subst e
              rw [List.getElem?_append_right (Nat.le_refl _), Nat.sub_self] at hj
              injection hj with hj
              subst hj
              exact ⟨p, a1, ir, c2, rfl, b1⟩
            · have hj2 : j < ds.length := by
                have := (List.getElem?_eq_some_iff.mp hj).1
                rw [snoc_len] at this
                omega
              rw [List.getElem?_append_left hj2] at hj
              obtain ⟨p2, q1, q2, q3, q4, q5⟩ := jd.2 j d hj
              exact ⟨p2, (a2 j e).trans q1, q2, q3, q4, (b2 j e).trans q5⟩
          rcases hX with ⟨x1, x2, x3, x4, y5, y6, x7, x8, x9⟩ | ⟨x1, x2, x3, x4, y5, y6, x7, x8, x9⟩ | ⟨x1, x2, x3, x4, y5, y6, x7, x8, x9⟩ <;> (
            subst x1 x2 x3 x4 y5 y6 x7 x8 x9
            refine b148_27 (pk_le 20 ts.length (fun z => absurd z (by omega)) (fun _ => gw _ (And.intro (fun z => absurd z (by decide)) (fun _ => stw _ (pk_ne (sWork g p) (g 8) (fun z => absurd c2 z) (fun _ => b148_73 (And.intro (fun z => absurd z (by decide)) (fun _ => dm _ (fun c3 J2 k2 t2 y7 y6 rA rK f2 => b148_100 (And.intro (fun z => absurd z (by decide)) (fun _ => stuck J2 _ _ c3 k2 t2 y7 y6 rA rK f2))) (fun c3 J2 L2 k2 t2 y7 y6 a1 a2 b1 b2 f2 l2 => moved J2 L2 _ _ c3 k2 t2 y7 y6 a1 a2 b1 b2 f2 l2)))) rfl s8 (by omega) (by omega))))) rfl rfl (by omega) (by omega)))
        · rw [if_neg c2] at hg'
          obtain ⟨w1, w2⟩ := v2 c2
          obtain ⟨m1, m2⟩ := gInv_foe hg hpf hok hi c w1
          have am := fun post' hp => k_answerMove (G := G) (n := n) (I := J) (L := L1) (q := q) (post := post') (s := s') hX' hO hok FJ hpk hpf LJ oJ jc jt ir c w1 hp
          have moved : ∀ (J2 : zI) (L2 : zL) (w7 : Int32) (v8 : Option Value), kC g (gFo pf g F p s').2.1 O B P J2 → T (gFo pf g F p s').2.2 J2 L2 → pFr (pAm O) J J2 → lPk L1 L2 → zQ G 148 (n + 4) post 100 [some (.ref X), some (.ref O), some (.ref FO), some rv, some (.ref fA), some (.int (nI p)), some (.int (nI ts.length)), some (.int w7), v8] [.int (nI (gFo pf g F p s').1)] J2 L2 (zR1 q) := by
            intro J2 L2 w7 v8 k2 t2 f2 l2
            have f2' : pFr (pDm X A K W O B P) J J2 := pFr_le f2 fun o k z => pDm_am z
            have x6 : J2 X 6 = J X 6 := f2 X 6 (pAm_no (Ne.symm nA.2.2.2.2.2.1.2.2) (fun _ => by decide) (by omega))
            have x7 : J2 X 7 = J X 7 := f2 X 7 (pAm_no (Ne.symm nA.2.2.2.2.2.1.2.2) (fun _ => by decide) (by omega))
            have rA : J2 A = J A := funext fun k => f2 A k (pAm_no (Ne.symm nA.2.2.2.2.2.1.1) (fun z => absurd z n79.2.1) (by omega))
            have rK : J2 K = J K := funext fun k => f2 K k (pAm_no (Ne.symm nA.2.2.2.2.2.1.2.1) (fun z => absurd z n79.2.2.1) (by omega))
            exact on _ _ _ J2 L2 w7 v8 m1 m2 w2 hg' k2 t2 (kDn_of jd x6 rA rK) ⟨(f2' X 3 (pDm_X3 hX')).trans jm.1, fun j t hj => (f2' M j (pDm_M hX')).trans (jm.2 j t hj)⟩ (x7.trans j7) (pFr_tr jf (pFr_le f2' fun o k z => .inl z)) (lPk_tr jl l2)
          rcases hX with ⟨x1, x2, x3, x4, y5, y6, x7, x8, x9⟩ | ⟨x1, x2, x3, x4, y5, y6, x7, x8, x9⟩ | ⟨x1, x2, x3, x4, y5, y6, x7, x8, x9⟩ <;> (
            subst x1 x2 x3 x4 y5 y6 x7 x8 x9
            refine b148_27 (pk_le 20 ts.length (fun z => absurd z (by omega)) (fun _ => gw _ (And.intro (fun z => absurd z (by decide)) (fun _ => stw _ (pk_ne (sWork g p) (g 8) (fun _ => b148_72 (b148_73 (And.intro (fun _ => b148_92 (am _ (fun J2 L2 k2 t2 f2 l2 => moved J2 L2 _ _ k2 t2 f2 l2))) (fun z => absurd rfl z)))) (fun z => absurd z c2) rfl s8 (by omega) (by omega))))) rfl rfl (by omega) (by omega)))
      · rw [if_neg c] at hg'
        have gw := fun post' hp => k_goes0 (G := G) (n := n + 3) (I := J) (L := L1) (q := q) (post := post') LJ ir (by omega) hp
        have e148 : zQ G 148 (n + 4) post 148 [some (.ref X), some (.ref O), some (.ref FO), some rv, some (.ref fA), some (.int (nI p)), some (.int (nI ts.length)), v7, v8] [] J L1 (zR1 q) := by
          subst hg'
          exact at148 J L1 _ _ _ _ (fun _ => rfl) (fun z => absurd rfl z) jc jt jd jm j7 jf jl
        rcases hX with ⟨x1, x2, x3, x4, y5, y6, x7, x8, x9⟩ | ⟨x1, x2, x3, x4, y5, y6, x7, x8, x9⟩ | ⟨x1, x2, x3, x4, y5, y6, x7, x8, x9⟩ <;> (
          subst x1 x2 x3 x4 y5 y6 x7 x8 x9
          refine b148_27 (pk_le 20 ts.length (fun _ => e148) (fun _ => gw _ (And.intro (fun _ => e148) (fun z => absurd rfl z))) rfl rfl (by omega) (by omega)))
  -- the start
  have start : zQ G 148 (n + 4) post 27 [some (.ref X), some (.ref O), some (.ref FO), some rv, some (.ref fA), some (.int (nI (sFirst g))), some (.int (nI 0)), none, none] [] (zup (zup (zup I X 3 0) X 6 0) X 7 (-1)) L (zR1 q) := by
    have jo : ∀ o, o ≠ X → zup (zup (zup I X 3 0) X 6 0) X 7 (-1) o = I o := fun o z => by rw [zup_ne z, zup_ne z, zup_ne z]
    have jx : ∀ k, k ≠ 3 → k ≠ 6 → k ≠ 7 → zup (zup (zup I X 3 0) X 6 0) X 7 (-1) X k = I X k := fun k z1 z2 z3 => by rw [zup_k z3, zup_k z2, zup_k z1]
    have j79 : ∀ k, k ≠ 3 → k ≠ 6 → k ≠ 7 → zup (zup (zup I X 3 0) X 6 0) X 7 (-1) 79 k = I 79 k := fun k z1 z2 z3 => by
      by_cases z : X = 79
      · rw [← z]
        exact jx k z1 z2 z3
      · rw [jo 79 (fun w => z w.symm)]
    have jf : pFr (pMt X M A K W O B P) I (zup (zup (zup I X 3 0) X 6 0) X 7 (-1)) := pFr_up (pFr_up (pFr_up (pFr_0 _ _) (.inr (.inr ⟨rfl, rfl⟩))) (.inl pDm_6)) (.inl pDm_7)
    exact key 21 (sFirst g) s [] [] _ L none none (by have := sDep_first g hg; omega) (pInv_0 hg hin) hV hS (kC_of hc (jo B nA.2.2.2.1.2.2) (jo P nA.2.2.2.2.1.2.2) (fun k _ => by rw [jo O nA.2.2.2.2.2.1.2.2])) (hT _ _ _ _ _ ht (j79 13 (by decide) (by decide) (by decide)) (j79 14 (by decide) (by decide) (by decide)) (jo 86 (g86 hge.1)) (jo 87 (g87 hge.1)) rfl) ⟨by rw [zup_k (by decide), zup_self]; rfl, fun j d hj => by cases hj⟩ ⟨by rw [zup_k (by decide), zup_k (by decide), zup_self]; rfl, fun j t hj => by cases hj⟩ zup_self jf (lPk_0 L)
  have L0 := (stat _ (pFr_up (pFr_up (pFr_up (pFr_0 _ I) (v := (0 : Int32)) (.inr (.inr ⟨rfl, rfl⟩))) (v := (0 : Int32)) (.inl pDm_6)) (v := (-1 : Int32)) (.inl pDm_7))).1
  rcases hX with ⟨x1, x2, x3, x4, y5, y6, x7, x8, x9⟩ | ⟨x1, x2, x3, x4, y5, y6, x7, x8, x9⟩ | ⟨x1, x2, x3, x4, y5, y6, x7, x8, x9⟩ <;> (
    subst x1 x2 x3 x4 y5 y6 x7 x8 x9
    rcases hrv with rfl | ⟨o, rfl⟩ <;> exact zin0 rfl rfl rfl (b148_0 (k_start L0.1 start)))
end
