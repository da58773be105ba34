-- ===== what does not hang on the side; on the likeness =====
section
variable (g : zg) (v : Nat)
theorem s8_Vn : ∀ f, sVn (fup g 8 v) f = sVn g f
  | 0 => rfl
  | f + 1 => by
    funext p
    rw [sVn, sVn, s8_Vn f]
    rfl
theorem s7_Vn : ∀ f, sVn (fup g 7 v) f = sVn g f
  | 0 => rfl
  | f + 1 => by
    funext p
    rw [sVn, sVn, s7_Vn f]
    rfl
theorem s8_Val : sVal (fup g 8 v) = sVal g := funext fun p => congrFun (s8_Vn g v (sDep g p)) p
theorem s7_Val : sVal (fup g 7 v) = sVal g := funext fun p => congrFun (s7_Vn g v (sDep g p)) p
theorem s8_Bst : sBst (fup g 8 v) = sBst g := by
  funext p m
  unfold sBst
  rw [s8_Val]
  rfl
theorem s7_Bst : sBst (fup g 7 v) = sBst g := by
  funext p m
  unfold sBst
  rw [s7_Val]
  rfl
theorem s8_Bs : sBs (fup g 8 v) = sBs g := by
  funext p
  unfold sBs
  rw [s8_Bst]
theorem s7_Bs : sBs (fup g 7 v) = sBs g := by
  funext p
  unfold sBs
  rw [s7_Bst]
theorem s8_TPk (p t : Nat) : ∀ i, sTPk (fup g 8 v) p t i = sTPk g p t i
  | 0 => rfl
  | i + 1 => by
    rw [sTPk, sTPk, s8_TPk p t i]
    rfl
theorem s8_TP : sTP (fup g 8 v) = sTP g := by
  funext p t
  unfold sTP
  rw [s8_TPk]
  rfl
theorem s8_TO (p : Nat) : ∀ n, sTO (fup g 8 v) p n = sTO g p n
  | 0 => rfl
  | n + 1 => by rw [sTO, sTO, s8_TO p n, s8_TP]
theorem s8_TurnOf : sTurnOf (fup g 8 v) = sTurnOf g := funext fun p => s8_TO g v p (sTurns g)
theorem s8_Box : sBox (fup g 8 v) = sBox g := by
  funext p
  unfold sBox
  rw [s8_TP, s8_TurnOf]
theorem s8_Ls (b m : Nat) : ∀ n, sLs (fup g 8 v) b m n = sLs g b m n
  | 0 => rfl
  | n + 1 => by
    rw [sLs, sLs, s8_Ls b m n, s8_TP]
    rfl
theorem s8_Has : sHas (fup g 8 v) = sHas g := by
  funext b m
  unfold sHas
  rw [show sLeast (fup g 8 v) b m = sLeast g b m from s8_Ls g v b m (sTurns g)]
  rfl
theorem s8_Kd : sKd (fup g 8 v) = sKd g := by
  funext b
  unfold sKd
  rw [s8_Has]
theorem s8_St : sSt (fup g 8 v) = sSt g := by
  funext b
  unfold sSt
  rw [s8_TP]
  rfl
theorem s8_BxB : sBxB (fup g 8 v) = sBxB g := by
  funext s x
  unfold sBxB
  rw [s8_Box]
  rfl
theorem s8_Sl : sSl (fup g 8 v) = sSl g := by
  funext s p
  unfold sSl
  rw [s8_BxB]
theorem s8_R : sR (fup g 8 v) = sR g := rfl
theorem s8_Work : sWork (fup g 8 v) = sWork g := rfl
theorem s8_Lg : sLg (fup g 8 v) = sLg g := rfl
theorem s8_Sz : sSz (fup g 8 v) = sSz g := rfl
theorem s8_Turns : sTurns (fup g 8 v) = sTurns g := rfl
theorem s8_Led : kLed (fup g 8 v) = kLed g := rfl
theorem s7_R : sR (fup g 7 v) = sR g := rfl
theorem s7_Work : sWork (fup g 7 v) = sWork g := rfl
theorem s7_Lg : sLg (fup g 7 v) = sLg g := rfl
theorem s7_Sz : sSz (fup g 7 v) = sSz g := rfl
theorem mPos_8 {I : zI} (h : mPos g I) : mPos (fup g 8 v) I := by
  unfold mPos
  rw [s8_R, s8_Work, s8_Val]
  exact h
theorem mPos_7 {I : zI} (h : mPos g I) : mPos (fup g 7 v) I := by
  unfold mPos
  rw [s7_R, s7_Work, s7_Val]
  exact h
theorem kTb_8 {I : zI} (h : kTb g I) : kTb (fup g 8 v) I := by
  unfold kTb
  rw [s8_R, s8_Work, s8_Val, s8_Lg, s8_Bs, s8_Sz]
  exact h
theorem kTb_7 {I : zI} (h : kTb g I) : kTb (fup g 7 v) I := by
  unfold kTb
  rw [s7_R, s7_Work, s7_Val, s7_Lg, s7_Bs, s7_Sz]
  exact h
theorem kLs_8 {I : zI} (h : kLs g I) : kLs (fup g 8 v) I := by
  unfold kLs kLt kLi
  rw [s8_R, s8_Work, s8_Sz, s8_Turns, s8_Led, s8_Box, s8_Sl, s8_TurnOf, s8_St, s8_Kd]
  exact h
theorem gOk_8 (hg : gOk g) (hv : v ≤ 1) : gOk (fup g 8 v) := by
  obtain ⟨h0, h1, h2, h3, h4, h5, h6, h7, h8⟩ := hg
  exact ⟨h0, h1, h2, h3, h4, h5, h6, h7, hv⟩
theorem gOk_7 (hg : gOk g) (hv : v ≤ 1) : gOk (fup g 7 v) := by
  obtain ⟨h0, h1, h2, h3, h4, h5, h6, h7, h8⟩ := hg
  exact ⟨h0, h1, h2, h3, h4, h5, h6, hv, h8⟩
theorem kG_8 {I : zI} (h : kG g I) (hv : v ≤ 1) : kG (fup g 8 v) I := ⟨gOk_8 g v h.1 hv, h.2⟩
theorem kG_7 {I : zI} (h : kG g I) (hv : v ≤ 1) : kG (fup g 7 v) I := ⟨gOk_7 g v h.1 hv, h.2⟩
end
-- ===== the class: the chest emptied, kept chests =====
theorem zR_kept : ∀ i, i < 3 → zR0 68 i = some (98 + 3 * i) := by decide +kernel
/-- what emptying touches beside the chest -/
def kp5 (o k : Nat) : Prop := (o = 98 ∨ o = 101 ∨ o = 104) ∧ k = 5
section
variable {G : zG} {n : Nat} {I : zI} {L : zL} {q : zq} {post : zPo} {g : zg} {c : sC} {fr : Nat → Nat} {nr : Nat} {rl : zrl} {ru : Option Nat} {nf : Nat} {fo : Nat → zfo} {en : Nat → Int32} {tx : Nat → Nat} {tn : Nat} {kp : Nat → Bool} {kc : Nat → sC} {wa : List zwt} {ro : List Int64} {t : Nat}
theorem w_emptyChest (hM : cAll c) (hc : kC g c 62 63 64 I) (h : ∀ I' : zI, (∀ g, gOk g → kC g (cClr c) 62 63 64 I') → (∀ i, i < 3 → I' (98 + 3 * i) 5 = 0) → (∀ o k, ¬ (kp5 o k ∨ (62 ≤ o ∧ o ≤ 64)) → I' o k = I o k) → post none I' L (zR1 q)) : zC G (n + 3) 294 [.ref 40] I L (zR1 q) post := by
  have hbd := cAll_bd hM (k := 0) (by omega)
  refine zin0 rfl rfl rfl (b294_0 (k_emptyAll (c := c) (O := 62) (B := 63) (P := 64) (Or.inl ⟨rfl, rfl, rfl⟩) hbd.2.2 hc.2.2.2.1 hc.2.2.2.2 (fun I1 kc1 f1 => ?_)))
  have key : ∀ (j i : Nat) (J : zI), i + j = 3 → (∀ m, m < i → J (98 + 3 * m) 5 = 0) → (∀ o k, ¬ kp5 o k → J o k = I1 o k) → zQ G 294 (n + 2) post 9 [some (.ref 40), some (.int (nI i))] [] J L (zR1 q) := by
    intro j
    induction j with
    | zero =>
      intro i J hi hz jo
      have e3 : i = 3 := by omega
      subst e3
      refine b294_9x (pk_le 3 3 (fun _ => b294_34 (h J (fun g' hg' => kC_of (kc1 g' hg') (funext fun k => jo 63 k (by unfold kp5; omega)) (funext fun k => jo 64 k (by unfold kp5; omega)) (fun k _ => jo 62 k (by unfold kp5; omega))) hz (fun o k z => ?_))) (fun z => absurd z (by omega)) rfl rfl (by omega) (by omega))
      rw [jo o k (fun w => z (Or.inl w))]
      exact f1 o k (by
        cases e : tCh 62 63 64 o k with
        | false => rfl
        | true => have := tCh_p e; omega)
    | succ j ih =>
      intro i J hi hz jo
      have hi3 : i < 3 := by omega
      have e : zR1 q 68 (nI i).toNatClampNeg = some (98 + 3 * i) := by
        rw [nI_clamp (by omega)]
        exact zR_kept i hi3
      have qq := ih (i + 1) (zup J (98 + 3 * i) 5 0) (by omega) (fun m hm => by
        unfold zup
        by_cases d : 98 + 3 * m = 98 + 3 * i
        · rw [if_pos d, if_pos rfl]
        · rw [if_neg d]
          exact hz m (by omega)) (fun o k z => by
        unfold zup
        by_cases d : o = 98 + 3 * i
        · rw [if_pos d]
          by_cases d2 : k = 5
          · exact absurd ⟨by omega, d2⟩ z
          · rw [if_neg d2]
            exact jo o k z
        · rw [if_neg d]
          exact jo o k z)
      rw [← nI_1] at qq
      refine b294_9x (pk_le 3 i (fun z => absurd z (by omega)) (fun _ => ?_) rfl rfl (by omega) (by omega))
      show zck ("BoxesWithBeads$Chest" == zcn 1 && Nat.blt 1 zncl) (vp_in (nI i) 3 ∧ _)
      refine zck_t zs_chest (And.intro (vp_in_nI hi3 (by decide)) ?_)
      rw [e]
      have c3 : i = 0 ∨ i = 1 ∨ i = 2 := by omega
      rcases c3 with rfl | rfl | rfl <;> exact And.intro ⟨rfl, rfl⟩ qq
  exact key 3 0 I1 (by omega) (fun m hm => absurd hm (Nat.not_lt_zero _)) (fun _ _ _ => rfl)
theorem w_isKept {x : Int32} (hk : kKp g kp kc I) (h1 : ∀ i, x = nI i → i < 3 → kp i = true → post (some (.int 1)) I L (zR1 q)) (h0 : (∀ i, x = nI i → i < 3 → kp i = false) → post (some (.int 0)) I L (zR1 q)) : zC G (n + 1) 295 [.ref 40, .int x] I L (zR1 q) post := by
  refine zin0 rfl rfl rfl (b295_0x ?_)
  have no : xOut x 3 → post (some (.int 0)) I L (zR1 q) := fun z => h0 (fun i e hi => absurd z (xOut_no hi (by decide) e))
  rcases pk_ix x (n := 3) (by decide) with c0 | c0 | ⟨i, hi, rfl⟩
  · exact And.intro (fun _ => b295_29 (b295_30 (And.intro rfl (no (.inl c0))))) (fun z => absurd c0 z)
  · exact And.intro (fun z => b295_29 (b295_30 (And.intro rfl (no (.inl z))))) (fun _ => And.intro (fun _ => b295_29 (b295_30 (And.intro rfl (no (.inr c0))))) (fun z => absurd c0 z))
  · refine And.intro (fun z => absurd z (nI_pos (by omega))) (fun _ => pk_le 3 i (fun z => absurd z (by omega)) (fun _ => ?_) rfl rfl (by omega) (by omega))
    show zck ("BoxesWithBeads$Chest" == zcn 1 && Nat.blt 1 zncl) (vp_in (nI i) 3 ∧ _)
    refine zck_t zs_chest (And.intro (vp_in_nI hi (by decide)) ?_)
    have e : zR1 q 68 (nI i).toNatClampNeg = some (98 + 3 * i) := by
      rw [nI_clamp (by omega)]
      exact zR_kept i hi
    rw [e]
    have hki := (hk i hi).1
    have fin : (kp i = false → zQ G 295 n post 29 [some (.ref 40), some (.int (nI i))] [] I L (zR1 q)) ∧ (kp i = true → post (some (.int 1)) I L (zR1 q)) := ⟨fun d => b295_29 (b295_30 (And.intro rfl (h0 (fun i' e' hi' => by rw [← nI_inj (by omega) (by omega) e']; exact d)))), fun d => h1 i rfl hi d⟩
    have dec : ∀ {A B : Prop}, (kp i = false → A) → (kp i = true → B) → (I (98 + 3 * i) 5 = 0 → A) ∧ (¬ I (98 + 3 * i) 5 = 0 → B) := fun a b => by
      rw [hki]
      exact zbo_eq a b
    have c3 : i = 0 ∨ i = 1 ∨ i = 2 := by omega
    rcases c3 with rfl | rfl | rfl <;> exact dec fin.1 (fun d => b295_30 (And.intro rfl (fin.2 d)))
end
