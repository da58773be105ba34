-- ===== the class: the forecast, one position =====
section
variable {G : zG} {n : Nat} {I : zI} {L : zL} {q : zq} {fo : Option Nat} {post : zPo} {g : zg} {c : sC} {fr : Nat → Nat} {O B P fA : Nat}
theorem k_oddsOf {p e : Nat} (hp : p < 19683) (he : e < 3) (h : post (some (.int (I 90 (3 * p + e)))) I L (zR1 q)) : zC G (n + 1) 167 [.ref 89, .int (nI p), .int (nI e)] I L (zR1 q) post := by
  have ep : (3 : Int32) * nI p + nI e = nI (3 * p + e) := by rw [show (3 : Int32) * nI p = nI (3 * p) from pk_mul 3 p, nI_add]
  have vp : vp_in ((3 : Int32) * nI p + nI e) 59049 := by rw [ep]; exact vp_in_nI (by omega) (by decide)
  have h' : post (some (.int (I 90 ((3 : Int32) * nI p + nI e).toNatClampNeg))) I L (zR1 q) := by
    rw [ep, nI_clamp (by omega)]
    exact h
  exact zin0 rfl rfl rfl (b167_0 (And.intro (fun z => absurd z (nI_pos (by omega))) (fun _ => pk_le 19683 p (fun z => absurd z (by omega)) (fun _ => And.intro (fun z => absurd z (nI_pos (by omega))) (fun _ => pk_lt 2 e (fun z => absurd z (by omega)) (fun _ => And.intro vp (b167_34 h')) rfl rfl (by omega) (by omega))) rfl rfl (by omega) (by omega))))
theorem k_beadsAt {p k : Nat} (hO : kCo O B P) (hfA : kAr fA 21) (hL : kLay g I) (hfr : kFr fr fA I) (hc : kC g c O B P I) (hin : cIn g c) (hr : sR g p) (hw : sWork g p = g 8) (hk : k < 9) (h : post (some (.int (nI (sWt g fr c p k)))) I L (zR1 (some O, fo, some fA))) : zC G (n + 3) 170 [.ref 89, .int (nI p), .int (nI k)] I L (zR1 (some O, fo, some fA)) post := by
  have hg := hL.1.1
  have g8 := hg.2.2.2.2.2.2.2.2
  have hw2 : sWork g p < 2 := by omega
  have bb := gR_box hg hr
  have hb := sB_box hg hr hw
  have hO' := hO
  have sn : sStn g (sBox g p) = sStn g p := bb.2.2.1
  have st31 : sStn g p < 2 ^ 31 := by
    unfold sStn
    have := sCnt_le p (sPl g)
    have := sPl_pos hg
    have h5 := hg.2.2.2.2.2.1
    split <;> omega
  have op : c.2.1 (sBox g p) = true → sWt g fr c p k = c.1 (9 * sBox g p + k) := fun e => by
    unfold sWt
    by_cases d : sHas g (sBox g p) k = true
    · rw [if_pos d, if_pos e]
    · rw [if_neg d]
      by_cases z : c.1 (9 * sBox g p + k) = 0
      · exact z.symm
      · exact absurd (hin.2.2 _ k hk z).2 d
  have at37 : c.2.1 (sBox g p) = false → zQ G 170 (n + 2) post 37 [some (.ref 89), some (.int (nI p)), some (.int (nI k)), some (.int (nI (sl g (sBox g p))))] [] I L (zR1 (some O, fo, some fA)) := fun e => by
    refine b170_37 (k_kindsAt hL hr hw2 (k_holds rfl (by have := sKd_lt g (sBox g p); omega) rfl (by omega) ?_))
    have eb : (sKd g (sBox g p)).testBit k = sHas g (sBox g p) k := by
      unfold sKd
      rw [sFB_tb, decide_eq_true hk, Bool.true_and]
    rw [eb]
    unfold sWt at h
    refine zbo_eq (fun d => b170_77 (b170_78 ?_)) (fun d => k_stonesL hL hr hw2 (k_entryFor hfA hfr st31 (b170_78 ?_)))
    · rw [if_neg (by rw [d]; decide)] at h
      exact h
    · rw [if_pos d, if_neg (by rw [e]; decide), sn] at h
      exact h
  rcases hO with ⟨o1, o2, o3⟩ | ⟨o1, o2, o3⟩ | ⟨o1, o2, o3⟩ | ⟨o1, o2, o3⟩ | ⟨o1, o2, o3⟩ <;> (
    subst o1 o2 o3
    refine zin0 rfl rfl rfl (b170_0 (k_slotP hL hr hw ?_))
    refine k_isOpened (b := sBox g p) hO' hg hc hb (zbo_eq (fun e => at37 e) (fun e => k_beadsOf (b := sBox g p) hO' hg hc hb hk ?_))
    rw [← op e]
    exact h)
end
