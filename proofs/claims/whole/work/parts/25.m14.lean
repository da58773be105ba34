-- ===== the reference: emptying all boxes, beginning =====
/-- unopened boxes hold nothing -/
def cEmp (c : sC) : Prop := ∀ b k, k < 9 → c.2.1 b = false → c.1 (9 * b + k) = 0
/-- the chest emptied -/
def cClr (c : sC) : sC := (fun _ => 0, fun _ => false, 10000 - c.2.2.2.1, c.2.2.2)
def tE (o k : Nat) : Bool := Nat.beq o 4 || Nat.beq o 5 || (Nat.beq o 0 && Nat.beq k 14)
section
variable {G : zG} {n : Nat} {I : zI} {L : zL} {q : zq} {post : zPo} {g : zg} {c : sC} {w : uW}
theorem c_inBoxes (hc : mC c I) (ha : c.2.2.1 + c.2.2.2.1 ≤ 10000) (h : post (some (.int (nI (10000 - c.2.2.1 - c.2.2.2.1)))) I L (zR1 q)) : zC G (n + 1) 39 [.ref 0] I L (zR1 q) post := by
  have e : (10000 : Int32) - I 0 14 - I 0 15 = nI (10000 - c.2.2.1 - c.2.2.2.1) := by
    rw [hc.2.2.1, hc.2.2.2.1, show (10000 : Int32) = nI 10000 from rfl, pk_sub (by omega), pk_sub (by omega)]
  rw [← e] at h
  exact zin0 rfl rfl rfl (b39_0 h)
/-- the boxes below i emptied -/
def cEk (c : sC) (I : zI) (i : Nat) : Prop := (∀ k, k < 177147 → I 5 k = if k < 9 * i then 0 else nI (c.1 k)) ∧ (∀ k, k < 19683 → I 4 k = if k < i then 0 else zbo (c.2.1 k))
theorem c_emptyAll (hc : mC c I) (hall : cAll c) (he : cEmp c) (h : ∀ I' : zI, mC (cClr c) I' → zFr tE I I' → post none I' L (zR1 q)) : zC G (n + 2) 40 [.ref 0] I L (zR1 q) post := by
  have hb := cAll_bd hall (k := 0) (by omega)
  have hsum : c.2.2.1 + c.2.2.2.1 ≤ 10000 := by unfold cAll at hall; omega
  -- one box
  have inner : ∀ (i : Nat), i < 19683 → (∀ J : zI, cEk c J (i + 1) → zFr tE I J → J 0 14 = nI (10000 - c.2.2.2.1) → zQ G 40 (n + 1) post 67 [some (.ref 0), some (.int (nI i)), none] [] J L (zR1 q)) →
      ∀ j k : Nat, k + j = 9 → ∀ J : zI, (∀ x, x < 177147 → J 5 x = if x < 9 * i + k then 0 else nI (c.1 x)) → (∀ x, x < 19683 → J 4 x = if x < i + 1 then 0 else zbo (c.2.1 x)) → zFr tE I J → J 0 14 = nI (10000 - c.2.2.2.1) → zQ G 40 (n + 1) post 43 [some (.ref 0), some (.int (nI i)), some (.int (nI k))] [] J L (zR1 q) := by
    intro i hi hk j
    induction j with
    | zero =>
      intro k hk2 J h5 h4 hf h14
      refine b40_43 (pk_le 9 k (fun _ => zP_lv ?_ (hk J ⟨?_, h4⟩ hf h14)) (fun z => absurd z (by omega)) rfl rfl (by omega) (by omega))
      · exact ⟨rfl, rfl, trivial⟩
      · intro x hx
        rw [h5 x hx, show 9 * i + k = 9 * (i + 1) by omega]
    | succ j ih =>
      intro k hk2 J h5 h4 hf h14
      have e9 : (9 : Int32) * nI i + nI k = nI (9 * i + k) := by rw [show (9 : Int32) = nI 9 from rfl, pk_mul, nI_add]
      refine b40_43 (pk_le 9 k (fun z => absurd z (by omega)) (fun _ => And.intro (by rw [e9]; exact vp_in_nI (by omega) (by decide)) ?_) rfl rfl (by omega) (by omega))
      have qq := ih (k + 1) (by omega) (zup J 5 (9 * nI i + nI k).toNatClampNeg 0) (fun x hx => ?_) (by rw [zup_ne (by decide)]; exact h4) (zFr_up hf rfl) (by rw [zup_ne (by decide)]; exact h14)
      · rw [← nI_1] at qq
        exact qq
      · rw [e9, nI_clamp (by omega), zup_eq]
        by_cases d : x = 9 * i + k
        · rw [if_pos d, if_pos (by omega)]
        · rw [if_neg d, h5 x hx]
          by_cases d2 : x < 9 * i + k
          · rw [if_pos d2, if_pos (by omega)]
          · rw [if_neg d2, if_neg (by omega)]
  have key : ∀ j i : Nat, i + j = 19683 → ∀ J : zI, cEk c J i → zFr tE I J → J 0 14 = nI (10000 - c.2.2.2.1) → zQ G 40 (n + 1) post 15 [some (.ref 0), some (.int (nI i)), none] [] J L (zR1 q) := by
    intro j
    induction j with
    | zero =>
      intro i hi J hJ hf h14
      refine b40_15 (pk_le 19683 i (fun _ => b40_73 (h J ⟨fun k hk => ?_, fun k hk => ?_, h14, (hf 0 15 rfl).trans hc.2.2.2.1, (hf 0 16 rfl).trans hc.2.2.2.2⟩ hf)) (fun z => absurd z (by omega)) rfl rfl (by omega) (by omega))
      · rw [hJ.1 k hk, if_pos (by omega)]
        rfl
      · rw [hJ.2 k hk, if_pos (by omega)]
        rfl
    | succ j ih =>
      intro i hi J hJ hf h14
      have ec : (nI i).toNatClampNeg = i := nI_clamp (by omega)
      have inb : vp_in (nI i) 19683 := vp_in_nI (by omega) (by decide)
      have next : ∀ J : zI, cEk c J (i + 1) → zFr tE I J → J 0 14 = nI (10000 - c.2.2.2.1) → zQ G 40 (n + 1) post 67 [some (.ref 0), some (.int (nI i)), none] [] J L (zR1 q) := by
        intro J hJ hf h14
        have qq := ih (i + 1) (by omega) J hJ hf h14
        rw [← nI_1] at qq
        exact b40_67 qq
      refine b40_15 (pk_le 19683 i (fun z => absurd z (by omega)) (fun _ => And.intro inb ?_) rfl rfl (by omega) (by omega))
      show (¬ J 4 (nI i).toNatClampNeg = 0 → _) ∧ (J 4 (nI i).toNatClampNeg = 0 → _)
      rw [ec, hJ.2 i (by omega), if_neg (by omega)]
      refine zbo_ne (fun z => b40_34 (And.intro inb ?_)) (fun z => next J ⟨fun x hx => ?_, fun x hx => ?_⟩ hf h14)
      · refine inner i (by omega) next 9 0 (by omega) _ (fun x hx => ?_) (fun x hx => ?_) (zFr_up hf rfl) ?_
        · rw [zup_ne (by decide)]
          exact hJ.1 x hx
        · show zup J 4 (nI i).toNatClampNeg (vp_nar .boolean 0) 4 x = _
          rw [ec, zup_eq, show vp_nar .boolean 0 = 0 by decide]
          by_cases d : x = i
          · rw [if_pos d, if_pos (by omega)]
          · rw [if_neg d, hJ.2 x hx]
            by_cases d2 : x < i
            · rw [if_pos d2, if_pos (by omega)]
            · rw [if_neg d2, if_neg (by omega)]
        · rw [zup_ne (by decide)]
          exact h14
      · rw [hJ.1 x hx]
        by_cases d : x < 9 * i
        · rw [if_pos d, if_pos (by omega)]
        · rw [if_neg d]
          by_cases d2 : x < 9 * (i + 1)
          · rw [if_pos d2]
            have := he i (x - 9 * i) (by omega) z
            rw [show 9 * i + (x - 9 * i) = x by omega] at this
            rw [this]
            rfl
          · rw [if_neg d2]
      · rw [hJ.2 x hx]
        by_cases d : x < i
        · rw [if_pos d, if_pos (by omega)]
        · rw [if_neg d]
          by_cases d2 : x < i + 1
          · rw [if_pos d2, show x = i by omega, z]
            rfl
          · rw [if_neg d2]
  refine zin0 rfl rfl rfl (b40_0 (And.intro rfl (c_inBoxes hc hsum ?_)))
  have e14 : I 0 14 + nI (10000 - c.2.2.1 - c.2.2.2.1) = nI (10000 - c.2.2.2.1) := by
    rw [hc.2.2.1, nI_add]
    congr 1
    omega
  refine key 19683 0 (by omega) (zup I 0 14 (I 0 14 + nI (10000 - c.2.2.1 - c.2.2.2.1))) ⟨fun x hx => ?_, fun x hx => ?_⟩ (zFr_up (zFr_0 _ _) rfl) (by rw [zup_self, e14])
  · rw [zup_ne (by decide), hc.1 x hx, if_neg (by omega)]
  · rw [zup_ne (by decide), hc.2.1 x hx, if_neg (by omega)]
end
