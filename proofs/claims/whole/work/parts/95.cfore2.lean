-- ===== the class: the forecast: the chest's moves; a game over =====
/-- one position's odds change -/
def fOd (p : Nat) (I I' : zI) : Prop := ∀ o k, ¬ (o = 90 ∧ 3 * p ≤ k ∧ k < 3 * p + 3) → I' o k = I o k
section
variable {G : zG} {n : Nat} {I : zI} {L : zL} {q : zq} {fo : Option Nat} {post : zPo} {g : zg} {c : sC} {fr : Nat → Nat} {O B P fA : Nat}
theorem k_ownMoves {p : Nat} (hO : kCo O B P) (hfA : kAr fA 21) (hL : kLay g I) (hfr : kFr fr fA I) (hc : kC g c O B P I) (hin : cIn g c) (hr : sR g p) (hw : sWork g p = g 8) (h : ∀ a, a < 512 → (∀ m, a.testBit m = true ↔ ∃ k, k < 9 ∧ 0 < sWt g fr c p k ∧ m = sMv g p k) → post (some (.int (nI a))) I L (zR1 (some O, fo, some fA))) : zC G (n + 4) 169 [.ref 89, .int (nI p)] I L (zR1 (some O, fo, some fA)) post := by
  have hg := hL.1.1
  have g8 := hg.2.2.2.2.2.2.2.2
  have hw2 : sWork g p < 2 := by omega
  have hkd := sKd_lt g (sBox g p)
  have eb : ∀ k, k < 9 → (sKd g (sBox g p)).testBit k = sHas g (sBox g p) k := fun k hk => by
    unfold sKd
    rw [sFB_tb, decide_eq_true hk, Bool.true_and]
  have key : ∀ j i a (v5 : Option Value), i + j = 9 → a < 512 → (∀ m, a.testBit m = true ↔ ∃ k, k < i ∧ 0 < sWt g fr c p k ∧ m = sMv g p k) → zQ G 169 (n + 3) post 14 [some (.ref 89), some (.int (nI p)), some (.int (nI (sKd g (sBox g p)))), some (.int (nI a)), some (.int (nI i)), v5] [] I L (zR1 (some O, fo, some fA)) := by
    intro j
    induction j with
    | zero =>
      intro i a v5 hi ha hm
      have e9 : i = 9 := by omega
      subst e9
      exact b169_14 (pk_le 9 9 (fun _ => b169_70 (h a ha hm)) (fun z => absurd z (by omega)) rfl rfl (by omega) (by omega))
    | succ j ih =>
      intro i a v5 hi ha hm
      have hi9 : i < 9 := by omega
      have nxt : ∀ (b : Nat) (v5 : Option Value), b < 512 → (∀ m, b.testBit m = true ↔ a.testBit m = true ∨ (0 < sWt g fr c p i ∧ m = sMv g p i)) → zQ G 169 (n + 3) post 64 [some (.ref 89), some (.int (nI p)), some (.int (nI (sKd g (sBox g p)))), some (.int (nI b)), some (.int (nI i)), v5] [] I L (zR1 (some O, fo, some fA)) := by
        intro b v5 hb hbm
        have qq := ih (i + 1) b v5 (by omega) hb (fun m => by
          rw [hbm m, hm m]
          constructor
          · rintro (⟨k, z1, z2, z3⟩ | ⟨z1, z2⟩)
            · exact ⟨k, by omega, z2, z3⟩
            · exact ⟨i, by omega, z1, z2⟩
          · rintro ⟨k, z1, z2, z3⟩
            by_cases w : k = i
            · subst w
              exact .inr ⟨z2, z3⟩
            · exact .inl ⟨k, by omega, z2, z3⟩)
        rw [← nI_1] at qq
        exact b169_64 qq
      have skip : sWt g fr c p i = 0 → ∀ v5, zQ G 169 (n + 3) post 64 [some (.ref 89), some (.int (nI p)), some (.int (nI (sKd g (sBox g p)))), some (.int (nI a)), some (.int (nI i)), v5] [] I L (zR1 (some O, fo, some fA)) := fun z v5 => nxt a v5 ha (fun m => ⟨.inl, fun w => w.elim id (fun y => absurd y.1 (by omega))⟩)
      refine b169_14 (pk_le 9 i (fun z => absurd z (by omega)) (fun _ => k_moveBack hL hr hw2 hi9 (fun v v9 hv => ?_)) rfl rfl (by omega) (by omega))
      refine k_holds rfl (by omega) rfl (by omega) ?_
      rw [eb i hi9]
      refine zbo_eq (fun d => skip (if_neg (by rw [d]; decide)) _) (fun d => And.intro (fun z => absurd z (nI_pos (by omega))) (fun _ => k_beadsAt hO hfA hL hfr hc hin hr hw hi9 ?_))
      have hmm := sCan_lt (sHas_lt hg d).2
      have ev := hv hmm
      have wb : sWt g fr c p i < 2 ^ 31 := by
        unfold sWt
        rw [if_pos d]
        split
        · have h19 := sR_lt hg (gR_box hg hr).1
          have := (cAll_bd hin.1 (k := 9 * sBox g p + i) (by omega)).1
          omega
        · have := (hfr (min 20 (sStn g (sBox g p))) (by omega)).2
          omega
      refine pk_le (sWt g fr c p i) 0 (fun z => skip (by omega) _) (fun z => ?_) rfl rfl wb (by omega)
      have qq := nxt (a ||| 2 ^ v) (some (.int (nI v))) (Nat.or_lt_two_pow (n := 9) ha (Nat.pow_lt_pow_right (by decide) v9)) (fun m => by
        rw [Nat.testBit_or, Bool.or_eq_true, Nat.testBit_two_pow, decide_eq_true_iff, ev]
        constructor
        · rintro (y | y)
          · exact .inl y
          · exact .inr ⟨z, y.symm⟩
        · rintro (y | ⟨-, y⟩)
          · exact .inl y
          · exact .inr y.symm)
      rw [← zorN, ← zshl1 (show v < 31 by omega)] at qq
      exact qq
  exact zin0 rfl rfl rfl (b169_0 (k_kindsAt hL hr hw2 (key 9 0 0 none (by omega) (by omega) (fun m => by
    rw [Nat.zero_testBit]
    exact ⟨(fun z => by cases z), (fun ⟨k, z, _⟩ => absurd z (Nat.not_lt_zero _))⟩))))
theorem k_setOver {p : Nat} (hL : kLay g I) (hr : sR g p) (hw : 2 ≤ sWork g p) (h : ∀ I' : zI, (∀ e, e < 3 → I' 90 (3 * p + e) = nI (if e = sEnd g p then 1000000000 else 0)) → fOd p I I' → post none I' L (zR1 q)) : zC G (n + 2) 171 [.ref 89, .int (nI p)] I L (zR1 q) post := by
  have hg := hL.1.1
  have g8 := hg.2.2.2.2.2.2.2.2
  have h19 := sR_lt hg hr
  have se := sEnd_le g p
  have wt := fun post' hp => k_worthToL (G := G) (n := n) (I := I) (L := L) (q := q) (post := post') hL hr (s := g 8) (by omega) hp
  rw [sWT_end hw, ← hL.2.2.2] at wt
  have key : ∀ j i (J : zI), i + j = 3 → (∀ e, e < i → J 90 (3 * p + e) = nI (if e = sEnd g p then 1000000000 else 0)) → fOd p I J → zQ G 171 (n + 1) post 18 [some (.ref 89), some (.int (nI p)), some (.int (nI (sEnd g p))), some (.int (nI i))] [] J L (zR1 q) := by
    intro j
    induction j with
    | zero =>
      intro i J hi hJ jf
      have e3 : i = 3 := by omega
      subst e3
      exact b171_18 (pk_lt 2 3 (fun _ => b171_50 (h J hJ jf)) (fun z => absurd z (by omega)) rfl rfl (by omega) (by omega))
    | succ j ih =>
      intro i J hi hJ jf
      have hi3 : i < 3 := by omega
      have ep : (3 : Int32) * nI p + nI i = nI (3 * p + i) := by rw [show (3 : Int32) * nI p = nI (3 * p) from pk_mul 3 p, nI_add]
      have vp : vp_in ((3 : Int32) * nI p + nI i) 59049 := by rw [ep]; exact vp_in_nI (by omega) (by decide)
      have put : ∀ v : Int32, v = nI (if i = sEnd g p then 1000000000 else 0) → zQ G 171 (n + 1) post 43 [some (.ref 89), some (.int (nI p)), some (.int (nI (sEnd g p))), some (.int (nI i))] [.int v, .int ((3 : Int32) * nI p + nI i), .ref 90] J L (zR1 q) := fun v hv => by
        refine b171_43 (And.intro vp ?_)
        rw [ep, nI_clamp (by omega)]
        have qq := ih (i + 1) (zup J 90 (3 * p + i) v) (by omega) (fun e he => by
          rw [zup_eq]
          by_cases w : 3 * p + e = 3 * p + i
          · rw [if_pos w, hv, show e = i by omega]
          · rw [if_neg w]
            exact hJ e (by omega)) (fun o k z => by
          unfold zup
          by_cases d : o = 90
          · rw [if_pos d, if_neg (fun w => z ⟨d, by omega⟩)]
            exact jf o k z
          · rw [if_neg d]
            exact jf o k z)
        rw [← nI_1] at qq
        exact qq
      exact b171_18 (pk_lt 2 i (fun z => absurd z (by omega)) (fun _ => pk_ne i (sEnd g p) (fun z => b171_42 (put 0 (by rw [if_neg z]; rfl))) (fun z => put 1000000000 (by rw [if_pos z]; rfl)) rfl rfl (by omega) (by omega)) rfl rfl (by omega) (by omega))
  exact zin0 rfl rfl rfl (b171_0 (wt _ (key 3 0 I (by omega) (fun e he => absurd he (Nat.not_lt_zero _)) (fun _ _ _ => rfl))))
end
