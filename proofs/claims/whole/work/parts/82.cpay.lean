-- ===== the class: a foe's answer, paying, refilling =====
theorem kFb_ar {O A B C D : Nat} (h : kFb O A B C D) : kAr D 14 := by
  rcases h with ⟨o1, o2, o3, o4, o5⟩ | ⟨o1, o2, o3, o4, o5⟩ | ⟨o1, o2, o3, o4, o5⟩ | ⟨o1, o2, o3, o4, o5⟩ | ⟨o1, o2, o3, o4, o5⟩ | ⟨o1, o2, o3, o4, o5⟩ | ⟨o1, o2, o3, o4, o5⟩ | ⟨o1, o2, o3, o4, o5⟩ <;> (subst o5; exact ⟨rfl, rfl⟩)
theorem kFb_hi {O A B C D : Nat} (h : kFb O A B C D) : 131 ≤ O ∧ 131 ≤ A ∧ 131 ≤ B ∧ 131 ≤ C ∧ 131 ≤ D := by
  rcases h with h | h | h | h | h | h | h | h <;> omega
theorem kRo_hi {O A T : Nat} (h : kRo O A T) : (107 ≤ O ∧ O ≤ 130) ∧ (107 ≤ A ∧ A ≤ 130) ∧ (107 ≤ T ∧ T ≤ 130) := by
  rcases h with h | h | h | h | h | h | h | h <;> omega
theorem zob_t {q : (FieldType × Nat) ⊕ Nat} {k : Nat → Prop} {c : Nat} (hq : q = .inr c) (h : k c) : zob q k := by rw [hq]; exact h
theorem pAm_hi {O o k : Nat} (hO : O ≤ 84) (h : 88 ≤ o) : ¬ pAm O o k := by
  rintro (z | z | z | z) <;> omega
theorem pAm_lo {O o k : Nat} (hO : 62 ≤ O) (h : o ≤ 61) : ¬ pAm O o k := by
  rintro (z | z | z | z) <;> omega
/-- boxes drawn from, by their positions -/
def kDn (g : zg) (X A K : Nat) (ds : List (Nat × Nat)) (I : zI) : Prop := I X 6 = nI ds.length ∧ ∀ j d, ds[j]? = some d → ∃ p, I A j = nI p ∧ sR g p ∧ sWork g p = g 8 ∧ sBox g p = d.1 ∧ I K j = nI d.2
def kSk (g : zg) (X : Nat) (em : Option Nat) (I : zI) : Prop := match em with
  | none => I X 7 = -1
  | some b => ∃ p, I X 7 = nI p ∧ sR g p ∧ sWork g p = g 8 ∧ sBox g p = b
theorem kDn_of {g : zg} {X A K : Nat} {ds : List (Nat × Nat)} {I I' : zI} (h : kDn g X A K ds I) (h6 : I' X 6 = I X 6) (hA : I' A = I A) (hK : I' K = I K) : kDn g X A K ds I' := by
  unfold kDn
  rw [h6, hA, hK]
  exact h
theorem kSk_of {g : zg} {X : Nat} {em : Option Nat} {I I' : zI} (h : kSk g X em I) (h7 : I' X 7 = I X 7) : kSk g X em I' := by
  cases em with
  | none => exact h7.trans h
  | some b =>
    obtain ⟨p, h1, h2⟩ := h
    exact ⟨p, h7.trans h1, h2⟩
theorem cGive_0 (c : sC) (k : Nat) : cGive c k 0 = c := by
  unfold cGive
  rw [Nat.zero_min]
  show (fup c.1 k (c.1 k + 0), c.2.1, c.2.2.1 - 0, c.2.2.2) = c
  rw [Nat.add_zero, Nat.sub_zero]
  have e : fup c.1 k (c.1 k) = c.1 := funext fun j => by
    by_cases w : j = k
    · rw [w, fup_s]
    · exact fup_n w
  rw [e]
theorem cSp_0 (c : sC) (k : Nat) : cSetSp (cSetBd c k (c.1 k - min 0 (c.1 k))) (c.2.2.2.1 + min 0 (c.1 k)) = c := by
  rw [Nat.zero_min]
  show (fup c.1 k (c.1 k - 0), c.2.1, c.2.2.1, c.2.2.2.1 + 0, c.2.2.2.2) = c
  rw [Nat.add_zero, Nat.sub_zero]
  have e : fup c.1 k (c.1 k) = c.1 := funext fun j => by
    by_cases w : j = k
    · rw [w, fup_s]
    · exact fup_n w
  rw [e]
theorem cFill_0 (g : zg) (b : Nat) (c : sC) : ∀ m, (cFill g b 0 c m).1 = c
  | 0 => rfl
  | m + 1 => by
    rw [cFill]
    split
    · show cGive (cFill g b 0 c m).1 (9 * b + m) 0 = c
      rw [cGive_0, cFill_0 g b c m]
    · exact cFill_0 g b c m
theorem cRefill_0 (g : zg) (b : Nat) (c : sC) : cRefill g b 0 c = c := by
  unfold cRefill
  split
  · exact cFill_0 g b c _
  · rfl
theorem sRefs_0 (g : zg) : ∀ (ds : List (Nat × Nat)) (c : sC), sRefs g 0 ds c = c
  | [], _ => rfl
  | d :: ds, c => by rw [sRefs, cRefill_0, sRefs_0 g ds c]
theorem cSetOp_t {c : sC} {b : Nat} (h : c.2.1 b = true) : cSetOp c b true = c := by
  have e : fup c.2.1 b true = c.2.1 := funext fun j => by
    by_cases w : j = b
    · rw [w, fup_s, h]
    · exact fup_n w
  show (c.1, fup c.2.1 b true, c.2.2) = c
  rw [e]
/-- paying all, however it is told -/
theorem sPayAll_some (g : zg) (rl : zrl) (r e : Nat) (ds : List (Nat × Nat)) (em : Option Nat) (c : sC) : sPayAll g rl (some r) e ds em c = (match em with
  | none => sRefs g (rl.2.2 r) ds (sPays rl r e ds 0 c)
  | some b => cRefill g b (rl.2.2 r) (sRefs g (rl.2.2 r) ds (sPays rl r e ds 0 c))) := by
  unfold sPayAll
  show (if rl.2.2 r = 0 then _ else _) = _
  by_cases w : rl.2.2 r = 0
  · rw [if_pos w, w]
    cases em with
    | none => exact (sRefs_0 g ds _).symm
    | some b =>
      show _ = cRefill g b 0 _
      rw [cRefill_0, sRefs_0]
  · rw [if_neg w]
    cases em <;> rfl
section
variable {τ : Type} {G : zG} {n : Nat} {I : zI} {L : zL} {q : zq} {post : zPo} {g : zg} {F : zfo} {fr : Nat → Nat} {T : τ → zI → zL → Prop} {V : sC × τ → (Nat → Nat) → Nat → Prop} {pf : sC × τ → (Nat → Nat) → Nat → Nat × (sC × τ)} {X M A K W N O B P FO FA FB FC FD RO RA RT : Nat} {c : sC}
set_option maxHeartbeats 4000000 in
set_option maxRecDepth 8000 in
theorem k_answerMove {s : sC × τ} {p : Nat} (hX : kXo X M A K W N O B P) (hO : kFb FO FA FB FC FD) (hok : foOk F) (hF : kFo FO FA FB FC FD F I) (hpk : ∀ m, kPK G m X g O B P q T V pf) (hpf : kPf V pf) (hL : kLay g I) (hone : ∀ k, k < 9 → I N k = 1) (hc : kC g s.1 O B P I) (ht : T s.2 I L) (hr : sR g p) (hw : sWork g p < 2) (hV : gVF V pf g F p s) (h : ∀ (I' : zI) (L' : zL), kC g (gFo pf g F p s).2.1 O B P I' → T (gFo pf g F p s).2.2 I' L' → pFr (pAm O) I I' → lPk L L' → post (some (.int (nI (gFo pf g F p s).1))) I' L' (zR1 q)) : zC G (n + 4) 151 [.ref X, .ref O, .ref FO, .int (nI p)] I L (zR1 q) post := by
  have hg := hL.1.1
  have h14 := hok.1
  have hO' := hO
  obtain ⟨hge, n79, nA, nM, nN, -, -⟩ := kXo_f hX
  have hhi := kFb_hi hO
  have hsum := foSum hok F.1 (Nat.le_refl _)
  have h9 := sCn_9 hg hw
  obtain ⟨p1, rP, eP⟩ := gPt_ok hpf hok hV.1
  have f5 := hF.1
  have f4 := hF.2.1
  have nN3 : pFr (pAm O) I I := pFr_0 _ _
  -- behind the part
  have at29 : ∀ (J : zI) (L1 : zL), kC g (gPt pf F s).2.1 O B P J → T (gPt pf F s).2.2 J L1 → pFr (pAm O) I J → lPk L L1 → zQ G 151 (n + 3) post 29 [some (.ref X), some (.ref O), some (.ref FO), some (.int (nI p)), none, none, none] [.int (nI (gPt pf F s).1)] J L1 (zR1 q) := by
    intro J L1 jc jt jf jl
    have LJ : kLay g J := kLay_of hL (fun o z1 z2 => funext fun k => jf o k (pAm_lo hge.2.2.2.2.2.2.1.1 z2))
    have row : ∀ o, 88 ≤ o → J o = I o := fun o z => funext fun k => jf o k (pAm_hi hge.2.2.2.2.2.2.1.2 z)
    have FJ : kFo FO FA FB FC FD F J := by
      unfold kFo
      rw [row FO (by omega), row FA (by omega), row FB (by omega), row FC (by omega), row FD (by omega)]
      exact hF
    have oneJ : ∀ k, k < 9 → J N k = nI 1 := fun k hk => by
      rw [jf N k (pAm_no nN.2.2.2.2.2.1 (fun z => absurd z n79.2.2.2.2.1) (by omega))]
      exact hone k hk
    have pkc := hpk (n + 1) (gPt pf F s).2 (fun _ => 1) (sCn g p) N 9 J L1
    rw [sSum_1] at pkc
    have eF : F.2.1 (gPt pf F s).1 ≠ 102 → gFo pf g F p s = (sFMv g F (gPt pf F s).1 p, (gPt pf F s).2) := fun z => by unfold gFo; rw [if_neg z]
    have eT : F.2.1 (gPt pf F s).1 = 102 → gFo pf g F p s = ((sNth (sLg g p) 31 0 (pf (gPt pf F s).2 (fun _ => 1) (sCn g p)).1).getD 0, (pf (gPt pf F s).2 (fun _ => 1) (sCn g p)).2) := fun z => by unfold gFo; rw [if_pos z]
    have kNs : kAr N 9 := by
      rcases hX with ⟨-, -, -, -, -, x6, -⟩ | ⟨-, -, -, -, -, x6, -⟩ | ⟨-, -, -, -, -, x6, -⟩ <;> (subst x6; exact ⟨rfl, rfl⟩)
    have fool : F.2.1 (gPt pf F s).1 = 102 → ∀ post' : zPo, (∀ (J2 : zI) (L2 : zL) (m : Nat), m < sCn g p → sNth (sLg g p) 31 0 m = some (gFo pf g F p s).1 → post (some (.int (nI (gFo pf g F p s).1))) J2 L2 (zR1 q) → post' (some (.int (nI m))) J2 L2 (zR1 q)) → zC G (n + 3) (yPk X) [.ref X, .ref O, .ref N, .int (nI (sCn g p)), .int (nI (sCn g p))] J L1 (zR1 q) post' := by
      intro d post' hp
      refine pkc _ jc jt kNs (by omega) (by omega) (fun k hk => oneJ k (by omega)) (fun _ _ => by decide) (by omega) (by omega) (hV.2 d) (fun J2 L2 c2 t2 f2 l2 => ?_)
      obtain ⟨b1, -, -⟩ := hpf (gPt pf F s).2 (fun _ => 1) (sCn g p) (by rw [sSum_1]; exact h9.1) (hV.2 d)
      have e := eT d
      obtain ⟨n1, -⟩ := sNth_legal hg b1
      refine hp J2 L2 _ b1 ?_ ?_
      · rw [e]
        show _ = some ((sNth (sLg g p) 31 0 _).getD 0)
        rw [n1]
        rfl
      · refine h J2 L2 ?_ ?_ (pFr_tr jf (pFr_z f2 fun o k z => tPik_p z)) (lPk_tr jl l2)
        · rw [e]
          exact c2
        · rw [e]
          exact t2
    have nofool : F.2.1 (gPt pf F s).1 ≠ 102 → post (some (.int (nI (sFMv g F (gPt pf F s).1 p)))) J L1 (zR1 q) := by
      intro d
      have hh := h J L1
      rw [eF d] at hh
      exact hh jc jt jf jl
    have isf := fun post' hp => k_isFool (G := G) (n := n + 2) (I := J) (L := L1) (q := q) (post := post') hO' hok FJ p1 hp
    have mvf := fun hn post' hp => k_moveOf (G := G) (n := n) (I := J) (L := L1) (q := q) (post := post') hO' hok FJ p1 LJ hr hn (fun _ => hp) (fun z => absurd z (by omega))
    have rest : ∀ (x5 x6 : Option Value), F.2.1 (gPt pf F s).1 = 102 → zQ G 151 (n + 3) post 52 [some (.ref X), some (.ref O), some (.ref FO), some (.int (nI p)), some (.int (nI (gPt pf F s).1)), x5, x6] [] J L1 (zR1 q) := by
      intro x5 x6 d
      have fl := fool d
      rcases hX with ⟨x1, x2, x3, x4, y5, y6, x7, x8, x9⟩ | ⟨x1, x2, x3, x4, y5, y6, x7, x8, x9⟩ | ⟨x1, x2, x3, x4, y5, y6, x7, x8, x9⟩ <;> (
        subst x1 x2 x3 x4 y5 y6 x7 x8 x9
        refine b151_52 (k_legalL LJ hr hw (k_bitCount rfl (sLg_lt g p) ?_))
        rw [sCn_pc hg]
        refine fl _ (fun J2 L2 m hm e hp => ?_)
        refine k_nthBit rfl (by have := sLg_lt g p; omega) rfl (by omega) ?_
        rw [e]
        exact hp)
    rcases hO with ⟨o1, o2, o3, o4, o5⟩ | ⟨o1, o2, o3, o4, o5⟩ | ⟨o1, o2, o3, o4, o5⟩ | ⟨o1, o2, o3, o4, o5⟩ | ⟨o1, o2, o3, o4, o5⟩ | ⟨o1, o2, o3, o4, o5⟩ | ⟨o1, o2, o3, o4, o5⟩ | ⟨o1, o2, o3, o4, o5⟩ <;> (
      rcases hX with ⟨x1, x2, x3, x4, y5, y6, x7, x8, x9⟩ | ⟨x1, x2, x3, x4, y5, y6, x7, x8, x9⟩ | ⟨x1, x2, x3, x4, y5, y6, x7, x8, x9⟩ <;> (
        subst x1 x2 x3 x4 y5 y6 x7 x8 x9 o1 o2 o3 o4 o5
        refine b151_29 (isf _ (zbo_ne (fun d => rest _ _ (of_decide_eq_true d)) (fun d => mvf (of_decide_eq_false d) _ (nofool (of_decide_eq_false d)))))))
  have one28 : F.1 ≤ 1 → zQ G 151 (n + 3) post 29 [some (.ref X), some (.ref O), some (.ref FO), some (.int (nI p)), none, none, none] [.int 0] I L (zR1 q) := by
    intro z
    have e : gPt pf F s = (0, s) := by unfold gPt; rw [if_neg (by omega)]
    rw [e] at at29
    exact at29 I L hc ht nN3 (lPk_0 L)
  have many : 1 < F.1 → ∀ post' : zPo, (∀ (J : zI) (L1 : zL), zQ G 151 (n + 3) post 29 [some (.ref X), some (.ref O), some (.ref FO), some (.int (nI p)), none, none, none] [.int (nI (gPt pf F s).1)] J L1 (zR1 q) → post' (some (.int (nI (gPt pf F s).1))) J L1 (zR1 q)) → zC G (n + 3) (yPk X) [.ref X, .ref O, .ref FD, .int (nI F.1), .int (nI (sSum F.2.2.1 F.1))] I L (zR1 q) post' := by
    intro z post' hp
    have e : gPt pf F s = pf s F.2.2.1 F.1 := by unfold gPt; rw [if_pos z]
    rw [e] at hp at29
    refine hpk (n + 1) s F.2.2.1 F.1 FD 14 I L post' hc ht (kFb_ar hO') h14.2 (by omega) (fun k hk => (hF.2.2 k hk).2.1) (fun k hk => by have := (hok.2 k hk).2.1; omega) (by omega) (by omega) (hV.1 z) (fun J L1 c1 t1 f1 l1 => hp J L1 (at29 J L1 c1 t1 (pFr_z f1 fun o k z => tPik_p z) l1))
  have dec : ∀ x : Int32, x = nI F.1 → (x ≤ 1 → F.1 ≤ 1) ∧ (¬ x ≤ 1 → 1 < F.1) := fun x hx => by
    subst hx
    exact pk_le F.1 1 id id rfl rfl (by omega) (by omega)
  have d5 := dec _ f5
  rcases hO with ⟨o1, o2, o3, o4, o5⟩ | ⟨o1, o2, o3, o4, o5⟩ | ⟨o1, o2, o3, o4, o5⟩ | ⟨o1, o2, o3, o4, o5⟩ | ⟨o1, o2, o3, o4, o5⟩ | ⟨o1, o2, o3, o4, o5⟩ | ⟨o1, o2, o3, o4, o5⟩ | ⟨o1, o2, o3, o4, o5⟩ <;> (
    rcases hX with ⟨x1, x2, x3, x4, y5, y6, x7, x8, x9⟩ | ⟨x1, x2, x3, x4, y5, y6, x7, x8, x9⟩ | ⟨x1, x2, x3, x4, y5, y6, x7, x8, x9⟩ <;> (
      subst x1 x2 x3 x4 y5 y6 x7 x8 x9 o1 o2 o3 o4 o5
      refine zin0 rfl rfl rfl (b151_0 (And.intro (fun z => b151_28 (one28 (d5.1 z))) (fun z => ?_)))
      have mm := many (d5.2 z)
      rw [← f5, ← f4] at mm
      exact mm _ (fun J L1 hh => hh)))
end
