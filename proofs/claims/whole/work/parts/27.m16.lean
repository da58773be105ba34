-- ===== the reference: the row, best moves, answers about positions =====
section
variable {G : zG} {n : Nat} {I : zI} {L : zL} {q : zq} {post : zPo} {g : zg} {c : sC} {w : uW}
/-- the row told -/
def mRow (l : List Int64) (I : zI) (L : zL) : Prop := I 0 33 = nI l.length ∧ ∀ i x, l[i]? = some x → L 17 i = x
theorem c_tell {l : List Int64} {x : Int64} (hr : mRow l I L) (hl : l.length < 32) (h : ∀ (I' : zI) (L' : zL), mRow (l ++ [x]) I' L' → (∀ o k, ¬ (o = 0 ∧ k = 33) → I' o k = I o k) → (∀ o, o ≠ 17 → L' o = L o) → post none I' L' (zR1 q)) : zC G (n + 1) 4 [.ref 0, .long x] I L (zR1 q) post := by
  have e33 := hr.1
  have ec : (I 0 33).toNatClampNeg = l.length := by rw [e33, nI_clamp (by omega)]
  refine zin0 rfl rfl rfl (b4_0 (And.intro (by rw [e33]; exact vp_in_nI hl (by decide)) (And.intro rfl ?_)))
  refine h (zup I 0 33 (I 0 33 + 1)) (zup L 17 (I 0 33).toNatClampNeg x) ⟨?_, fun i y hy => ?_⟩ (fun o k z => ?_) (fun o ho => zup_ne ho)
  · rw [zup_self, e33, nI_1, List.length_append]
    rfl
  · rw [ec, zup_eq]
    by_cases d : i = l.length
    · subst d
      rw [List.getElem?_append_right (Nat.le_refl _), Nat.sub_self] at hy
      cases hy
      rw [if_pos rfl]
    · have hi : i < l.length := by
        have := (List.getElem?_eq_some_iff.mp hy).1
        rw [List.length_append] at this
        have e1 : [x].length = 1 := rfl
        omega
      rw [List.getElem?_append_left hi] at hy
      rw [if_neg d]
      exact hr.2 i y hy
  · unfold zup
    by_cases d : o = 0
    · rw [if_pos d, if_neg (fun z2 => z ⟨d, z2⟩)]
    · rw [if_neg d]
/-- whether a move is one of the best -/
def sBst (g : zg) (p m : Nat) : Bool := sCan g p m && decide (sWth g (sVal g) p m = sVal g p)
theorem c_isBest {p m : Nat} (hg : mG g I) (hm : mPos g I) (hr : sR g p) (hw : sWork g p < 2) (hml : m < 2 ^ 31) (h : post (some (.int (zbo (sBst g p m)))) I L (zR1 q)) : zC G (n + 6) 67 [.ref 0, .int (nI p), .int (nI m)] I L (zR1 q) post := by
  have hp := sR_ok hg.1 hr
  have hp1 := hp.1
  refine zin0 rfl rfl rfl (b67_0 (c_can hg hp hml (zbo_eq (fun z => ?_) (fun z => ?_))))
  · rw [show sBst g p m = false by unfold sBst; rw [z]; rfl] at h
    exact b67_28 (b67_29 (And.intro rfl h))
  · have hq := sR_step hr hw z
    have pq := mPos_R hg.1 hm hq
    refine c_worth (v := sVal g) hg hp z (sR_lt hg.1 hq) pq.2.1 (fun hw2 => ⟨pq.2.2 hw2, sVal_le g _⟩) (And.intro (vp_in_nI hp1 (by decide)) ?_)
    have e3 : I 3 (nI p).toNatClampNeg = nI (sVal g p) := by rw [nI_clamp (by omega)]; exact (mPos_R hg.1 hm hr).2.2 hw
    have l1 := sWth_le g (sVal g) p m
    have l2 := sVal_le g p
    refine (fun z : _ ∧ _ => And.intro z.2 z.1) (pk_eq (sWth g (sVal g) p m) (sVal g p) (fun z2 => ?_) (fun z2 => ?_) rfl e3 (by omega) (by omega))
    · rw [show sBst g p m = true by unfold sBst; rw [z, decide_eq_true z2]; rfl] at h
      exact b67_29 (And.intro rfl h)
    · rw [show sBst g p m = false by unfold sBst; rw [z, decide_eq_false z2]; rfl] at h
      exact b67_28 (b67_29 (And.intro rfl h))
end
