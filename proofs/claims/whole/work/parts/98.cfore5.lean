-- ===== the class: the forecast: a fool's move =====
section
variable {G : zG} {n : Nat} {I : zI} {L : zL} {q : zq} {post : zPo} {g : zg}
theorem k_addFool {p sh : Nat} {w : Nat → Nat} {v : Nat → Nat → Nat} (hL : kLay g I) (hr : sR g p) (hw2 : sWork g p < 2) (hod : ∀ m, sCan g p m = true → ∀ e, e < 3 → I 90 (3 * sBeh g p m + e) = nI (v m e)) (hv : ∀ m e, v m e ≤ 1000000000) (hsh : sh ≤ 1000) (hs : ∀ e, e < 3 → L 93 e = lN (w e)) (h : ∀ L' : zL, (∀ e, e < 3 → L' 93 e = lN (w e + sh * (sSum (fun m => if sCan g p m = true then v m e else 0) 9 / sCn g p))) → (∀ o, o ≠ 93 → L' o = L o) → post none I L' (zR1 q)) : zC G (n + 2) 175 [.ref 89, .int (nI p), .int (nI sh)] I L (zR1 q) post := by
  have hg := hL.1.1
  have h9 := sCn_9 hg hw2
  have lgl := sLg_lt g p
  have bnd : ∀ e m, sSum (fun m => if sCan g p m = true then v m e else 0) m ≤ 1000000000 * m := by
    intro e m
    induction m with
    | zero => exact Nat.zero_le _
    | succ m ih =>
      show sSum _ m + (if sCan g p m = true then v m e else 0) ≤ _
      have := hv m e
      split <;> omega
  have key : ∀ j i (L1 : zL) (v6 v7 v8 : Option Value), i + j = 3 → (∀ e, e < 3 → L1 93 e = lN (if e < i then w e + sh * (sSum (fun m => if sCan g p m = true then v m e else 0) 9 / sCn g p) else w e)) → (∀ o, o ≠ 93 → L1 o = L o) → zQ G 175 (n + 1) post 18 [some (.ref 89), some (.int (nI p)), some (.int (nI sh)), some (.int (nI (sLg g p))), some (.int (nI (sCn g p))), some (.int (nI i)), v6, v7, v8] [] I L1 (zR1 q) := by
    intro j
    induction j with
    | zero =>
      intro i L1 v6 v7 v8 hi hl lo
      have e3 : i = 3 := by omega
      subst e3
      exact b175_18 (pk_lt 2 3 (fun _ => b175_108 (h L1 (fun e he => by rw [hl e he, if_pos he]) lo)) (fun z => absurd z (by omega)) rfl rfl (by omega) (by omega))
    | succ j ih =>
      intro i L1 v6 v7 v8 hi hl lo
      have hi3 : i < 3 := by omega
      have vi : vp_in (nI i) 3 := vp_in_nI hi3 (by decide)
      have hcl : (nI i).toNatClampNeg = i := nI_clamp (by omega)
      have li : L1 93 i = lN (w i) := by rw [hl i hi3, if_neg (Nat.lt_irrefl _)]
      have b9 := bnd i 9
      have inner : ∀ k m, m + k = 9 → zQ G 175 (n + 1) post 30 [some (.ref 89), some (.int (nI p)), some (.int (nI sh)), some (.int (nI (sLg g p))), some (.int (nI (sCn g p))), some (.int (nI i)), some (.long (lN (sSum (fun m => if sCan g p m = true then v m i else 0) m))), none, some (.int (nI m))] [] I L1 (zR1 q) := by
        intro k
        induction k with
        | zero =>
          intro m hm
          have e9 : m = 9 := by omega
          subst e9
          have at100 : ∀ x : Int64, x = lN (sh * (sSum (fun m => if sCan g p m = true then v m i else 0) 9 / sCn g p)) → zQ G 175 (n + 1) post 100 [some (.ref 89), some (.int (nI p)), some (.int (nI sh)), some (.int (nI (sLg g p))), some (.int (nI (sCn g p))), some (.int (nI i)), some (.long (lN (sSum (fun m => if sCan g p m = true then v m i else 0) 9))), none, some (.int (nI 9))] [.long x, .long (lN (w i)), .int (nI i), .ref 93] I L1 (zR1 q) := fun x hx => by
            subst hx
            refine b175_100 (And.intro vi ?_)
            rw [hcl, lN_add]
            have qq := ih (i + 1) (zup L1 93 i (lN (w i + sh * (sSum (fun m => if sCan g p m = true then v m i else 0) 9 / sCn g p)))) (some (.long (lN (sSum (fun m => if sCan g p m = true then v m i else 0) 9)))) none (some (.int (nI 9))) (by omega) (fun e he => by
              rw [zup_eq]
              by_cases c : e = i
              · rw [if_pos c, c, if_pos (Nat.lt_succ_self i)]
              · rw [if_neg c, hl e he]
                by_cases d : e < i
                · rw [if_pos d, if_pos (by omega)]
                · rw [if_neg d, if_neg (by omega)]) (fun o z => by rw [zup_ne z]; exact lo o z)
            rw [← nI_1] at qq
            exact qq
          refine b175_30 (pk_le 9 9 (fun _ => b175_74 (And.intro ⟨rfl, rfl⟩ (And.intro vi ?_))) (fun z => absurd z (by omega)) rfl rfl (by omega) (by omega))
          rw [hcl, li]
          refine pk_le (sCn g p) 0 (fun z => absurd z (by omega)) (fun _ => And.intro ?_ (at100 _ ?_)) rfl rfl (by omega) (by omega)
          · show ¬ (nI (sCn g p)).toInt64 = 0
            rw [nI_l (by omega)]
            exact fun w2 => absurd ((pk_lEQ (b := 0) (by omega) (by omega)).mp w2) (by omega)
          · rw [nI_l (by omega), nI_l (by omega), pk_lDiv (by omega) h9.1 (by omega), lN_mul]
        | succ k ihk =>
          intro m hm
          have hm9 : m < 9 := by omega
          have eS : sSum (fun m => if sCan g p m = true then v m i else 0) (m + 1) = sSum (fun m => if sCan g p m = true then v m i else 0) m + (if sCan g p m = true then v m i else 0) := rfl
          have qq := ihk (m + 1) (by omega)
          rw [← nI_1, eS] at qq
          refine b175_30 (pk_le 9 m (fun z => absurd z (by omega)) (fun _ => k_holds rfl (by omega) rfl (by omega) ?_) rfl rfl (by omega) (by omega))
          rw [sLg_tb hg]
          refine zbo_eq (fun d => ?_) (fun d => ?_)
          · rw [if_neg (by rw [d]; decide), Nat.add_zero] at qq
            exact b175_68 qq
          · rw [if_pos d] at qq
            have h19 := sR_lt hg (sR_step hr hw2 d)
            have hvm := hv m i
            rw [← lN_add, ← nI_l (n := v m i) (by omega), ← hod m d i hi3] at qq
            exact k_nextL hL hr hw2 d (k_oddsOf h19 hi3 (b175_68 qq))
      exact b175_18 (pk_lt 2 i (fun z => absurd z (by omega)) (fun _ => inner 9 0 (by omega)) rfl rfl (by omega) (by omega))
  refine zin0 rfl rfl rfl (b175_0 (k_legalL hL hr hw2 (k_bitCount rfl lgl ?_)))
  rw [sCn_pc hg]
  exact key 3 0 L none none none (by omega) (fun e he => by rw [hs e he, if_neg (Nat.not_lt_zero _)]) (fun _ _ => rfl)
end
