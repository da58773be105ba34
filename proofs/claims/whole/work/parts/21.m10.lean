-- ===== the reference: the chest's cells, giving =====
section
variable {G : zG} {n : Nat} {I : zI} {L : zL} {q : zq} {post : zPo} {g : zg} {c : sC} {w : uW}
theorem c_setBag {v : Nat} (hv : c.2.2.1 < 2 ^ 31) (hc : mC c I) (hw : mU w I) (hr : uRoom w 1) (h : ∀ (I' : zI) (w' : uW), mC (cSetBag c v) I' → mU w' I' → uSt w c 1 w' (cSetBag c v) → zFr tC I I' → post none I' L (zR1 q)) : zC G (n + 2) 31 [.ref 0, .int (nI v)] I L (zR1 q) post := by
  refine zin0 rfl rfl rfl (b31_0 ?_)
  show zC G (n + 1) 29 [.ref 0, .int (nI 177147), .int (I 0 14)] I L (zR1 q) _
  rw [hc.2.2.1]
  refine c_note hw hr fun I' hu hf => ?_
  have hc' := mC_tU hc hf
  refine h (zup I' 0 14 (nI v)) (uAdd w (177147, c.2.2.1)) ?_ (mU_of hu rfl rfl (zup_ne (by decide)) (zup_ne (by decide))) (uSt_add ⟨(by show 177147 ≤ 177149; omega), hv, fun z => absurd (show 177147 = 177149 from z) (by decide)⟩ ?_) (zFr_up (zFr_tU hf) rfl)
  · refine ⟨?_, ?_, ?_, ?_, ?_⟩
    · rw [zup_ne (by decide)]; exact hc'.1
    · rw [zup_ne (by decide)]; exact hc'.2.1
    · exact zup_self
    · exact hc'.2.2.2.1
    · exact hc'.2.2.2.2
  · rfl
theorem c_setSpent {v : Nat} (hv : c.2.2.2.1 < 2 ^ 31) (hc : mC c I) (hw : mU w I) (hr : uRoom w 1) (h : ∀ (I' : zI) (w' : uW), mC (cSetSp c v) I' → mU w' I' → uSt w c 1 w' (cSetSp c v) → zFr tC I I' → post none I' L (zR1 q)) : zC G (n + 2) 32 [.ref 0, .int (nI v)] I L (zR1 q) post := by
  refine zin0 rfl rfl rfl (b32_0 ?_)
  show zC G (n + 1) 29 [.ref 0, .int (nI 177148), .int (I 0 15)] I L (zR1 q) _
  rw [hc.2.2.2.1]
  refine c_note hw hr fun I' hu hf => ?_
  have hc' := mC_tU hc hf
  refine h (zup I' 0 15 (nI v)) (uAdd w (177148, c.2.2.2.1)) ?_ (mU_of hu rfl rfl (zup_ne (by decide)) (zup_ne (by decide))) (uSt_add ⟨(by show 177148 ≤ 177149; omega), hv, fun z => absurd (show 177148 = 177149 from z) (by decide)⟩ ?_) (zFr_up (zFr_tU hf) rfl)
  · refine ⟨?_, ?_, ?_, ?_, ?_⟩
    · rw [zup_ne (by decide)]; exact hc'.1
    · rw [zup_ne (by decide)]; exact hc'.2.1
    · exact hc'.2.2.1
    · exact zup_self
    · exact hc'.2.2.2.2
  · rfl
theorem c_setOpened {k : Nat} (hk : k < 19683) (ho : c.2.1 k = false) (hc : mC c I) (hw : mU w I) (hr : uRoom w 1) (h : ∀ (I' : zI) (w' : uW), mC (cSetOp c k true) I' → mU w' I' → uSt w c 1 w' (cSetOp c k true) → zFr tC I I' → post none I' L (zR1 q)) : zC G (n + 2) 33 [.ref 0, .int (nI k)] I L (zR1 q) post := by
  have ec : (nI k).toNatClampNeg = k := nI_clamp (by omega)
  refine zin0 rfl rfl rfl (b33_0 ?_)
  show zC G (n + 1) 29 [.ref 0, .int (nI 177149), .int (nI k)] I L (zR1 q) _
  refine c_note hw hr fun I' hu hf => ?_
  have hc' := mC_tU hc hf
  refine And.intro (vp_in_nI hk (by decide)) ?_
  show post none (zup I' 4 (nI k).toNatClampNeg (vp_nar .boolean 1)) L (zR1 q)
  rw [ec, show vp_nar .boolean 1 = 1 by decide]
  refine h (zup I' 4 k 1) (uAdd w (177149, k)) ?_ (mU_of hu (by rw [zup_ne (by decide)]) (by rw [zup_ne (by decide)]) (zup_ne (by decide)) (zup_ne (by decide))) (uSt_add ⟨Nat.le_refl _, (by show k < 2 ^ 31; omega), fun _ => hk⟩ ?_) (zFr_up (zFr_tU hf) rfl)
  · refine ⟨?_, fun j hj => ?_, ?_⟩
    · rw [zup_ne (by decide)]; exact hc'.1
    · rw [zup_eq]
      show _ = zbo (fup c.2.1 k true j)
      unfold fup
      by_cases d : j = k
      · rw [if_pos d, if_pos d]; rfl
      · rw [if_neg d, if_neg d]
        exact hc'.2.1 j hj
    · rw [zup_ne (by decide)]
      exact hc'.2.2
  · show (c.1, fup (fup c.2.1 k true) k false, c.2.2) = c
    rw [← ho, fup_back]
/-- the chest's beads are not too many to count -/
def cInv (c : sC) : Prop := c.2.2.1 + c.2.2.2.1 ≤ 10000 ∧ ∀ k, c.1 k + c.2.2.1 + c.2.2.2.1 ≤ 10000
/-- so many beads of the bag, as far as it has -/
def cGive (c : sC) (k x : Nat) : sC := cSetBd (cSetBag c (c.2.2.1 - min x c.2.2.1)) k (c.1 k + min x c.2.2.1)
theorem c_give {k x : Nat} (hk : k < 177147) (hx : x < 2 ^ 31) (h1 : c.1 k < 2 ^ 30) (h2 : c.2.2.1 < 2 ^ 30) (hc : mC c I) (hw : mU w I) (hr : uRoom w 2) (h : ∀ (I' : zI) (w' : uW), mC (cGive c k x) I' → mU w' I' → uSt w c 2 w' (cGive c k x) → zFr tC I I' → post (some (.int (nI (min x c.2.2.1)))) I' L (zR1 q)) : zC G (n + 3) 35 [.ref 0, .int (nI k), .int (nI x)] I L (zR1 q) post := by
  have ec : (nI k).toNatClampNeg = k := nI_clamp (by omega)
  have em : (if I 0 14 < nI x then I 0 14 else nI x) = nI (min x c.2.2.1) := by
    rw [hc.2.2.1]
    by_cases z : c.2.2.1 < x
    · rw [if_pos ((nI_ltI (by omega) hx).mpr z), Nat.min_eq_right (by omega)]
    · rw [if_neg (fun z2 => z ((nI_ltI (by omega) hx).mp z2)), Nat.min_eq_left (by omega)]
  have hmin : min x c.2.2.1 ≤ c.2.2.1 := Nat.min_le_right _ _
  refine zin0 rfl rfl rfl (b35_0 ?_)
  show zC G (n + 2) 31 [.ref 0, .int (I 0 14 - (if I 0 14 < nI x then I 0 14 else nI x))] I L (zR1 q) _
  rw [em, hc.2.2.1, pk_sub hmin]
  refine c_setBag (by omega) hc hw (uRoom_le hr (by omega)) fun I1 w1 hc1 hw1 hs1 hf1 => ?_
  refine And.intro (vp_in_nI hk (by decide)) ?_
  show zC G (n + 2) 30 [.ref 0, .int (nI k), .int (I1 5 (nI k).toNatClampNeg + nI (min x c.2.2.1))] I1 L (zR1 q) _
  rw [ec, hc1.1 k hk, nI_add]
  refine c_setBeads hk (by show c.1 k < 2 ^ 31; omega) hc1 hw1 (uRoom_st (k := 1) hs1 hr) fun I2 w2 hc2 hw2 hs2 hf2 => ?_
  exact h I2 w2 hc2 hw2 (uSt_tr hs1 hs2) (zFr_tr hf1 hf2)
end
