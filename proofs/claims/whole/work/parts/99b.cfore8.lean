-- ===== the class: the forecast: a position of the foe =====
def fT (F : zfo) (j : Nat) : Nat := if 1 < F.1 then F.2.2.1 j else 1
def fA1 (F : zfo) : Nat := if 1 < F.1 then sSum F.2.2.1 F.1 else 1
def fW (g : zg) (F : zfo) (v : Nat → Nat → Nat) (p e : Nat) : Nat → Nat := sSum (fun j => fT F j * sPO g F v p j e)
theorem fW_OF {g : zg} {F : zfo} (hok : foOk F) (v : Nat → Nat → Nat) (p e : Nat) : sOF g F v p e = fW g F v p e F.1 / fA1 F := by
  have h1 := hok.1
  unfold sOF fW fA1
  by_cases d : F.1 = 1
  · rw [if_pos d, if_neg (by omega), Nat.div_one, d]
    show _ = 0 + fT F 0 * sPO g F v p 0 e
    unfold fT
    rw [if_neg (by omega), Nat.one_mul, Nat.zero_add]
  · rw [if_neg d, if_pos (by omega)]
    rw [sSum_congr (f' := fun j => fT F j * sPO g F v p j e) F.1 (fun i _ => by
      show _ = fT F i * sPO g F v p i e
      unfold fT
      rw [if_pos (by omega)])]
theorem fT_le {F : zfo} (hok : foOk F) {j : Nat} (hj : j < F.1) : fT F j ≤ 9 := by
  have := (hok.2 j hj).2.1
  unfold fT
  split <;> omega
theorem fA1_ok {F : zfo} (hok : foOk F) : 0 < fA1 F ∧ fA1 F ≤ 126 ∧ sSum (fT F) F.1 = fA1 F := by
  have h1 := hok.1
  have h2 := foSum hok F.1 (Nat.le_refl _)
  unfold fA1
  by_cases d : 1 < F.1
  · rw [if_pos d]
    refine ⟨by omega, by omega, ?_⟩
    exact sSum_congr F.1 fun i _ => by unfold fT; rw [if_pos d]
  · rw [if_neg d]
    refine ⟨by omega, by omega, ?_⟩
    rw [show F.1 = 1 by omega]
    show 0 + fT F 0 = 1
    unfold fT
    rw [if_neg d]
theorem fW_le {g : zg} {F : zfo} {v : Nat → Nat → Nat} (hv : ∀ x e, v x e ≤ 1000000000) (p e i : Nat) : fW g F v p e i ≤ 1000000000 * sSum (fT F) i := sSum_wb (w := fT F) (x := fun j => sPO g F v p j e) (fun _ => sPO_le (fun x => hv x e)) i
section
variable {G : zG} {n : Nat} {I : zI} {L : zL} {qc qf : Option Nat} {post : zPo} {g : zg} {F : zfo} {FO FA FB FC FD : Nat}
set_option maxHeartbeats 2000000 in
theorem k_setFoes {v : Nat → Nat → Nat} {p : Nat} (hO : kFb FO FA FB FC FD) (hok : foOk F) (hF : kFo FO FA FB FC FD F I) (hL : kLay g I) (hr : sR g p) (hw2 : sWork g p < 2) (hod : ∀ m, sCan g p m = true → (∃ k, k < F.1 ∧ (F.2.1 k = 102 ∨ m = sFMv g F k p)) → ∀ e, e < 3 → I 90 (3 * sBeh g p m + e) = nI (v (sBeh g p m) e)) (hv : ∀ x e, v x e ≤ 1000000000) (h : ∀ (I' : zI) (L' : zL), (∀ e, e < 3 → I' 90 (3 * p + e) = nI (sOF g F v p e)) → fOd p I I' → (∀ o, o ≠ 93 → L' o = L o) → post none I' L' (zR1 (qc, some FO, qf))) : zC G (n + 4) 173 [.ref 89, .int (nI p)] I L (zR1 (qc, some FO, qf)) post := by
  have hg := hL.1.1
  have h19 := sR_lt hg hr
  have h14 := hok.1
  have hO' := hO
  have hsum := fA1_ok hok
  have hsm := foSum hok F.1 (Nat.le_refl _)
  have h9 := sCn_9 hg hw2
  have f5 := hF.1
  have f4 := hF.2.1
  have ix : ∀ e, e < 3 → (3 : Int32) * nI p + nI e = nI (3 * p + e) := fun e _ => by rw [show (3 : Int32) * nI p = nI (3 * p) from pk_mul 3 p, nI_add]
  have vp : ∀ e, e < 3 → vp_in ((3 : Int32) * nI p + nI e) 59049 := fun e he => by rw [ix e he]; exact vp_in_nI (by omega) (by decide)
  have put : ∀ e, e < 3 → ((3 : Int32) * nI p + nI e).toNatClampNeg = 3 * p + e := fun e he => by rw [ix e he]; exact nI_clamp (by omega)
  have bW : ∀ e, fW g F v p e F.1 ≤ 126000000000 := fun e => by
    have := fW_le (g := g) (F := F) hv p e F.1
    rw [hsum.2.2] at this
    omega
  -- the last loop
  have last : ∀ (L1 : zL) (v2 : Option Value), (∀ e, e < 3 → L1 93 e = lN (fW g F v p e F.1)) → (∀ o, o ≠ 93 → L1 o = L o) → ∀ j i (J : zI), i + j = 3 → (∀ e, e < i → J 90 (3 * p + e) = nI (sOF g F v p e)) → fOd p I J → zQ G 173 (n + 3) post 149 [some (.ref 89), some (.int (nI p)), v2, some (.int (nI (fA1 F))), some (.int (nI i))] [] J L1 (zR1 (qc, some FO, qf)) := by
    intro L1 v2 hl lo j
    induction j with
    | zero =>
      intro i J hi hJ jf
      have e3 : i = 3 := by omega
      subst e3
      exact b173_149 (pk_lt 2 3 (fun _ => b173_191 (h J L1 hJ jf lo)) (fun z => absurd z (by omega)) rfl rfl (by omega) (by omega))
    | succ j ih =>
      intro i J hi hJ jf
      have hi3 : i < 3 := by omega
      have bWi := bW i
      have vi : vp_in (nI i) 3 := vp_in_nI hi3 (by decide)
      have at184 : ∀ x : Int32, x = nI (sOF g F v p i) → zQ G 173 (n + 3) post 184 [some (.ref 89), some (.int (nI p)), v2, some (.int (nI (fA1 F))), some (.int (nI i))] [.int x, .int ((3 : Int32) * nI p + nI i), .ref 90] J L1 (zR1 (qc, some FO, qf)) := fun x hx => by
        refine b173_184 (And.intro (vp i hi3) ?_)
        rw [put i hi3, hx]
        have qq := ih (i + 1) (zup J 90 (3 * p + i) (nI (sOF g F v p i))) (by omega) (fun e he => by
          rw [zup_eq]
          by_cases d : e = i
          · rw [d, if_pos rfl]
          · rw [if_neg (by omega)]
            exact hJ e (by omega)) (fOd_up jf (by omega) (by omega))
        rw [← nI_1] at qq
        exact qq
      refine b173_149 (pk_lt 2 i (fun z => absurd z (by omega)) (fun _ => pk_le (fA1 F) 0 (fun z => absurd z (by omega)) (fun _ => And.intro vi (And.intro ?_ (at184 _ ?_))) rfl rfl (by omega) (by omega)) rfl rfl (by omega) (by omega))
      · show ¬ (nI (fA1 F)).toInt64 = 0
        rw [nI_l (by omega)]
        exact fun w2 => absurd ((pk_lEQ (b := 0) (by omega) (by omega)).mp w2) (by omega)
      · rw [nI_clamp (by omega), hl i hi3, nI_l (by omega), pk_lDiv (by omega) hsum.1 (by omega), lN_i, fW_OF hok]
  have at145 : ∀ (L1 : zL) (v3 v4 : Option Value), (∀ e, e < 3 → L1 93 e = lN (fW g F v p e F.1)) → (∀ o, o ≠ 93 → L1 o = L o) → zQ G 173 (n + 3) post 145 [some (.ref 89), some (.int (nI p)), some (.int (zbo (decide (1 < F.1)))), v3, v4] [.int (nI (fA1 F))] I L1 (zR1 (qc, some FO, qf)) := fun L1 v3 v4 hl lo => b173_145 (last L1 _ hl lo 3 0 I (by omega) (fun e he => absurd he (Nat.not_lt_zero _)) (fun _ _ _ => rfl))
  have at130 : ∀ (L1 : zL) (v3 v4 : Option Value), (∀ e, e < 3 → L1 93 e = lN (fW g F v p e F.1)) → (∀ o, o ≠ 93 → L1 o = L o) → zQ G 173 (n + 3) post 130 [some (.ref 89), some (.int (nI p)), some (.int (zbo (decide (1 < F.1)))), v3, v4] [] I L1 (zR1 (qc, some FO, qf)) := fun L1 v3 v4 hl lo => by
    have a := at145 L1 v3 v4 hl lo
    have d1 : 1 < F.1 → fA1 F = sSum F.2.2.1 F.1 := fun z => if_pos z
    have d0 : ¬ 1 < F.1 → fA1 F = 1 := fun z => if_neg z
    rcases hO with ⟨o1, o2, o3, o4, o5⟩ | ⟨o1, o2, o3, o4, o5⟩ | ⟨o1, o2, o3, o4, o5⟩ | ⟨o1, o2, o3, o4, o5⟩ | ⟨o1, o2, o3, o4, o5⟩ | ⟨o1, o2, o3, o4, o5⟩ | ⟨o1, o2, o3, o4, o5⟩ | ⟨o1, o2, o3, o4, o5⟩ <;> (
      subst o1 o2 o3 o4 o5
      refine b173_130 (zbo_eq (fun d => b173_144 ?_) (fun d => ?_))
      · rw [d0 (of_decide_eq_false d)] at a
        exact a
      · rw [d1 (of_decide_eq_true d), ← f4] at a
        exact a)
  -- the loop over the parts
  have key : ∀ j i (L1 : zL) (v4 : Option Value), i + j = F.1 → (∀ e, e < 3 → L1 93 e = lN (fW g F v p e i)) → (∀ o, o ≠ 93 → L1 o = L o) → zQ G 173 (n + 3) post 34 [some (.ref 89), some (.int (nI p)), some (.int (zbo (decide (1 < F.1)))), some (.int (nI i)), v4] [] I L1 (zR1 (qc, some FO, qf)) := by
    intro j
    induction j with
    | zero =>
      intro i L1 v4 hi hl lo
      have ei : i = F.1 := by omega
      subst ei
      have a := at130 L1 (some (.int (nI F.1))) v4 hl lo
      have dec : ∀ {A B : Prop}, A → (I FO 5 ≤ nI F.1 → A) ∧ (¬ I FO 5 ≤ nI F.1 → B) := fun x => by
        rw [f5]
        exact pk_le F.1 F.1 (fun _ => x) (fun z => absurd z (by omega)) rfl rfl (by omega) (by omega)
      rcases hO with ⟨o1, o2, o3, o4, o5⟩ | ⟨o1, o2, o3, o4, o5⟩ | ⟨o1, o2, o3, o4, o5⟩ | ⟨o1, o2, o3, o4, o5⟩ | ⟨o1, o2, o3, o4, o5⟩ | ⟨o1, o2, o3, o4, o5⟩ | ⟨o1, o2, o3, o4, o5⟩ | ⟨o1, o2, o3, o4, o5⟩ <;> (
        subst o1 o2 o3 o4 o5
        exact b173_34 (dec a))
    | succ j ih =>
      intro i L1 v4 hi hl lo
      have hi1 : i < F.1 := by omega
      have hti := fT_le hok hi1
      have D := (hF.2.2 i hi1).2.1
      have kk := (hok.2 i hi1).2.1
      have nxt : ∀ L2 : zL, (∀ e, e < 3 → L2 93 e = lN (fW g F v p e i + fT F i * sPO g F v p i e)) → (∀ o, o ≠ 93 → L2 o = L1 o) → zQ G 173 (n + 3) post 124 [some (.ref 89), some (.int (nI p)), some (.int (zbo (decide (1 < F.1)))), some (.int (nI i)), some (.int (nI (fT F i)))] [] I L2 (zR1 (qc, some FO, qf)) := fun L2 hl2 lo2 => by
        have qq := ih (i + 1) L2 (some (.int (nI (fT F i)))) (by omega) hl2 (fun o z => (lo2 o z).trans (lo o z))
        rw [← nI_1] at qq
        exact b173_124 qq
      have fool : F.2.1 i = 102 → ∀ e, sPO g F v p i e = sSum (fun m => if sCan g p m = true then v (sBeh g p m) e else 0) 9 / sCn g p := fun z e => by
        unfold sPO sCn
        rw [if_pos z, sSum_mm hg (fun k hk => by
          by_cases d : sCan g p k = true
          · exact absurd (sCan_lt d) (by omega)
          · exact if_neg d)]
      have nofool : F.2.1 i ≠ 102 → ∀ e, sPO g F v p i e = v (sBeh g p (sFMv g F i p)) e := fun z e => by
        unfold sPO
        rw [if_neg z]
      have isf := fun post' hp => k_isFool (G := G) (n := n + 2) (I := I) (L := L1) (q := (qc, some FO, qf)) (post := post') hO' hok hF hi1 hp
      have mvf := fun hn post' hp => k_moveOf (G := G) (n := n) (I := I) (L := L1) (q := (qc, some FO, qf)) (post := post') hO' hok hF hi1 hL hr hn (fun _ => hp) (fun z => absurd z (by omega))
      have addF : F.2.1 i = 102 → ∀ post' : zPo, (∀ L2, zQ G 173 (n + 3) post 124 [some (.ref 89), some (.int (nI p)), some (.int (zbo (decide (1 < F.1)))), some (.int (nI i)), some (.int (nI (fT F i)))] [] I L2 (zR1 (qc, some FO, qf)) → post' none I L2 (zR1 (qc, some FO, qf))) → zC G (n + 3) 175 [.ref 89, .int (nI p), .int (nI (fT F i))] I L1 (zR1 (qc, some FO, qf)) post' := fun z post' hp => by
        refine k_addFool (n := n + 1) (w := fun e => fW g F v p e i) (v := fun m e => v (sBeh g p m) e) hL hr hw2 (fun m hm => hod m hm ⟨i, hi1, Or.inl z⟩) (fun m e => hv _ e) (by omega) hl (fun L2 hl2 lo2 => hp L2 (nxt L2 (fun e he => ?_) lo2))
        rw [hl2 e he, fool z e]
      have addM : F.2.1 i ≠ 102 → ∀ post' : zPo, (∀ L2, zQ G 173 (n + 3) post 124 [some (.ref 89), some (.int (nI p)), some (.int (zbo (decide (1 < F.1)))), some (.int (nI i)), some (.int (nI (fT F i)))] [] I L2 (zR1 (qc, some FO, qf)) → post' none I L2 (zR1 (qc, some FO, qf))) → zC G (n + 3) 174 [.ref 89, .int (nI p), .int (nI (sFMv g F i p)), .int (nI (fT F i))] I L1 (zR1 (qc, some FO, qf)) post' := fun z post' hp => by
        have hcan := sFMv_can hg (F := F) (k := i) hw2
        refine k_addMove (n := n + 1) (w := fun e => fW g F v p e i) (v := fun e => v (sBeh g p (sFMv g F i p)) e) hL hr hw2 hcan (hod _ hcan ⟨i, hi1, Or.inr rfl⟩) (fun e => hv _ e) (by omega) hl (fun L2 hl2 lo2 => hp L2 (nxt L2 (fun e he => ?_) lo2))
        rw [hl2 e he, nofool z e]
      have at81 : ∀ v4 : Option Value, zQ G 173 (n + 3) post 81 [some (.ref 89), some (.int (nI p)), some (.int (zbo (decide (1 < F.1)))), some (.int (nI i)), v4] [.int (nI (fT F i))] I L1 (zR1 (qc, some FO, qf)) := fun v4 => by
        rcases hO with ⟨o1, o2, o3, o4, o5⟩ | ⟨o1, o2, o3, o4, o5⟩ | ⟨o1, o2, o3, o4, o5⟩ | ⟨o1, o2, o3, o4, o5⟩ | ⟨o1, o2, o3, o4, o5⟩ | ⟨o1, o2, o3, o4, o5⟩ | ⟨o1, o2, o3, o4, o5⟩ | ⟨o1, o2, o3, o4, o5⟩ <;> (
          subst o1 o2 o3 o4 o5
          exact b173_81 (isf _ (zbo_eq (fun d => b173_104 (mvf (of_decide_eq_false d) _ (addM (of_decide_eq_false d) _ (fun L2 z => z)))) (fun d => addF (of_decide_eq_true d) _ (fun L2 z => z)))))
      have dec : ∀ {A B : Prop}, B → (I FO 5 ≤ nI i → A) ∧ (¬ I FO 5 ≤ nI i → B) := fun x => by
        rw [f5]
        exact pk_le F.1 i (fun z => absurd z (by omega)) (fun _ => x) rfl rfl (by omega) (by omega)
      have a1 : 1 < F.1 → fT F i = F.2.2.1 i := fun z => if_pos z
      have a0 : ¬ 1 < F.1 → fT F i = 1 := fun z => if_neg z
      have vi : vp_in (nI i) 14 := vp_in_nI (by omega) (by decide)
      have hcl : (nI i).toNatClampNeg = i := nI_clamp (by omega)
      have a := at81 v4
      rcases hO with ⟨o1, o2, o3, o4, o5⟩ | ⟨o1, o2, o3, o4, o5⟩ | ⟨o1, o2, o3, o4, o5⟩ | ⟨o1, o2, o3, o4, o5⟩ | ⟨o1, o2, o3, o4, o5⟩ | ⟨o1, o2, o3, o4, o5⟩ | ⟨o1, o2, o3, o4, o5⟩ | ⟨o1, o2, o3, o4, o5⟩ <;> (
        subst o1 o2 o3 o4 o5
        refine b173_34 (dec (pk_le 14 i (fun z => absurd z (by omega)) (fun _ => zbo_eq (fun d => b173_80 ?_) (fun d => And.intro vi ?_)) rfl rfl (by omega) (by omega)))
        · rw [a0 (of_decide_eq_false d)] at a
          exact a
        · rw [a1 (of_decide_eq_true d), ← D, ← hcl] at a
          rw [hcl] at a ⊢
          exact a)
  have at31 : ∀ L1 : zL, (∀ k, k < 3 → L1 93 k = 0) → (∀ o, o ≠ 93 → L1 o = L o) → ∀ (v2 v3 v4 : Option Value), zQ G 173 (n + 3) post 31 [some (.ref 89), some (.int (nI p)), v2, v3, v4] [.int (zbo (decide (1 < F.1)))] I L1 (zR1 (qc, some FO, qf)) := fun L1 h0 lo v2 v3 v4 => b173_31 (key F.1 0 L1 v4 (by omega) (fun e he => h0 e he) lo)
  have dec0 : ∀ {A B : Prop}, (¬ 1 < F.1 → A) → (1 < F.1 → B) → (I FO 5 ≤ 1 → A) ∧ (¬ I FO 5 ≤ 1 → B) := fun x y => by
    rw [f5]
    exact pk_le F.1 1 (fun z => x (by omega)) (fun z => y z) rfl rfl (by omega) (by omega)
  have go : ∀ L1 : zL, (∀ k, k < 3 → L1 93 k = 0) → (∀ o, o ≠ 93 → L1 o = L o) → ∀ (v2 v3 v4 : Option Value), (¬ 1 < F.1 → zQ G 173 (n + 3) post 31 [some (.ref 89), some (.int (nI p)), v2, v3, v4] [.int 0] I L1 (zR1 (qc, some FO, qf))) ∧ (1 < F.1 → zQ G 173 (n + 3) post 31 [some (.ref 89), some (.int (nI p)), v2, v3, v4] [.int 1] I L1 (zR1 (qc, some FO, qf))) := fun L1 h0 lo v2 v3 v4 => by
    have a := at31 L1 h0 lo v2 v3 v4
    refine ⟨fun z => ?_, fun z => ?_⟩
    · rw [decide_eq_false z] at a
      exact a
    · rw [decide_eq_true z] at a
      exact a
  rcases hO with ⟨o1, o2, o3, o4, o5⟩ | ⟨o1, o2, o3, o4, o5⟩ | ⟨o1, o2, o3, o4, o5⟩ | ⟨o1, o2, o3, o4, o5⟩ | ⟨o1, o2, o3, o4, o5⟩ | ⟨o1, o2, o3, o4, o5⟩ | ⟨o1, o2, o3, o4, o5⟩ | ⟨o1, o2, o3, o4, o5⟩ <;> (
    subst o1 o2 o3 o4 o5
    exact zin0 rfl rfl rfl (b173_0 (k_fillL (fun L1 h0 lo => dec0 (fun z => b173_30 ((go L1 h0 lo none none none).1 z)) (fun z => (go L1 h0 lo none none none).2 z)))))
end
