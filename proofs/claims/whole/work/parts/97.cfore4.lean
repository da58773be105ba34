-- ===== the class: the forecast: a foe's move =====
section
variable {G : zG} {n : Nat} {I : zI} {L : zL} {q : zq} {post : zPo} {g : zg}
theorem k_addMove {p m sh : Nat} {w v : Nat → Nat} (hL : kLay g I) (hr : sR g p) (hw2 : sWork g p < 2) (hm : sCan g p m = true) (hod : ∀ e, e < 3 → I 90 (3 * sBeh g p m + e) = nI (v e)) (hv : ∀ e, v e ≤ 1000000000) (hsh : sh ≤ 1000) (hs : ∀ e, e < 3 → L 93 e = lN (w e)) (h : ∀ L' : zL, (∀ e, e < 3 → L' 93 e = lN (w e + sh * v e)) → (∀ o, o ≠ 93 → L' o = L o) → post none I L' (zR1 q)) : zC G (n + 2) 174 [.ref 89, .int (nI p), .int (nI m), .int (nI sh)] I L (zR1 q) post := by
  have hg := hL.1.1
  have h19 := sR_lt hg (sR_step hr hw2 hm)
  have key : ∀ j i (L1 : zL), i + j = 3 → (∀ e, e < 3 → L1 93 e = lN (if e < i then w e + sh * v e else w e)) → (∀ o, o ≠ 93 → L1 o = L o) → zQ G 174 (n + 1) post 14 [some (.ref 89), some (.int (nI p)), some (.int (nI m)), some (.int (nI sh)), some (.int (nI (sBeh g p m))), some (.int (nI i))] [] I L1 (zR1 q) := by
    intro j
    induction j with
    | zero =>
      intro i L1 hi hl lo
      have e3 : i = 3 := by omega
      subst e3
      exact b174_14 (pk_lt 2 3 (fun _ => b174_48 (h L1 (fun e he => by rw [hl e he, if_pos he]) lo)) (fun z => absurd z (by omega)) rfl rfl (by omega) (by omega))
    | succ j ih =>
      intro i L1 hi hl lo
      have hi3 : i < 3 := by omega
      have vi : vp_in (nI i) 3 := vp_in_nI hi3 (by decide)
      have hcl : (nI i).toNatClampNeg = i := nI_clamp (by omega)
      have hvi := hv i
      have li : L1 93 i = lN (w i) := by rw [hl i hi3, if_neg (Nat.lt_irrefl _)]
      refine b174_14 (pk_lt 2 i (fun z => absurd z (by omega)) (fun _ => And.intro ⟨rfl, rfl⟩ (And.intro vi (k_oddsOf h19 hi3 (And.intro vi ?_)))) rfl rfl (by omega) (by omega))
      rw [hcl, li, hod i hi3, nI_l (by omega), nI_l (by omega), lN_acc]
      have qq := ih (i + 1) (zup L1 93 i (lN (w i + sh * v i))) (by omega) (fun e he => by
        rw [zup_eq]
        by_cases c : e = i
        · rw [if_pos c, c, if_pos (Nat.lt_succ_self i)]
        · rw [if_neg c, hl e he]
          by_cases d : e < i
          · rw [if_pos d, if_pos (by omega)]
          · rw [if_neg d, if_neg (by omega)]) (fun o z => by rw [zup_ne z]; exact lo o z)
      rw [← nI_1] at qq
      exact qq
  exact zin0 rfl rfl rfl (b174_0 (k_nextL hL hr hw2 hm (key 3 0 L (by omega) (fun e he => by rw [hs e he, if_neg (Nat.not_lt_zero _)]) (fun _ _ => rfl))))
end
