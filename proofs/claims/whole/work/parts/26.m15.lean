-- ===== the reference: beginning =====
/-- what beginning touches -/
def tB (o k : Nat) : Bool := Nat.beq o 1 || Nat.beq o 2 || Nat.beq o 3 || Nat.beq o 4 || Nat.beq o 5 || Nat.beq o 29 || (Nat.beq o 0 && Nat.beq k 14)
theorem tE_tB (o k : Nat) (h : tB o k = false) : tE o k = false := by
  unfold tB at h
  unfold tE
  simp only [Bool.or_eq_false_iff] at h ⊢
  exact ⟨⟨h.1.1.1.2, h.1.1.2⟩, h.2⟩
theorem sDep_first (g : zg) (hg : gOk g) : sDep g (sFirst g) ≤ 20 := by
  have h5 : g 5 ≤ 20 := hg.2.2.2.2.2.1.2
  have hpl := sPl_pos hg
  unfold sDep sFirst
  split <;> omega
theorem tB_g : ∀ k, k < 9 → tB 0 k = false := by decide
section
variable {G : zG} {n : Nat} {I : zI} {L : zL} {q : zq} {post : zPo} {g : zg} {c : sC} {w : uW}
theorem mG_tB {I' : zI} (hg : mG g I) (hf : zFr tB I I') : mG g I' := ⟨hg.1, fun k hk => (hf 0 k (tB_g k hk)).trans (hg.2 k hk)⟩
theorem c_begin (hg : mG g I) (hc : mC c I) (hall : cAll c) (he : cEmp c) (h : ∀ I' : zI, mG g I' → mPos g I' → mC (cClr c) I' → (∀ i, i < 3 → I' 29 i = 0) → zFr tB I I' → post none I' L (zR1 q)) : zC G (n + 27) 41 [.ref 0] I L (zR1 q) post := by
  have hd := sDep_first g hg.1
  -- no chest is kept
  have loop2 : ∀ J : zI, mPos g J → mC (cClr c) J → ∀ j i : Nat, i + j = 3 → ∀ K : zI, (∀ x, x < i → K 29 x = 0) → (∀ o, o ≠ 29 → K o = J o) → zFr tB I K → zQ G 41 (n + 26) post 36 [some (.ref 0), some (.int (nI i))] [] K L (zR1 q) := by
    intro J hp hcl j
    induction j with
    | zero =>
      intro i hi K hK ho hf
      refine b41_36 (pk_le 3 i (fun _ => b41_54 (h K (mG_tB hg hf) (mPos_of hp (ho 1 (by decide)) (ho 2 (by decide)) (ho 3 (by decide))) (mC_of hcl (ho 5 (by decide)) (ho 4 (by decide)) (by rw [ho 0 (by decide)]) (by rw [ho 0 (by decide)]) (by rw [ho 0 (by decide)])) (fun x hx => hK x (by omega)) hf)) (fun z => absurd z (by omega)) rfl rfl (by omega) (by omega))
    | succ j ih =>
      intro i hi K hK ho hf
      refine b41_36 (pk_le 3 i (fun z => absurd z (by omega)) (fun _ => And.intro (vp_in_nI (by omega) (by decide)) ?_) rfl rfl (by omega) (by omega))
      have qq := ih (i + 1) (by omega) (zup K 29 (nI i).toNatClampNeg (vp_nar .boolean 0)) (fun x hx => ?_) (fun o hh => by rw [zup_ne hh]; exact ho o hh) (zFr_up hf rfl)
      · rw [← nI_1] at qq
        exact qq
      · rw [nI_clamp (by omega), zup_eq, show vp_nar .boolean 0 = 0 by decide]
        by_cases d : x = i
        · rw [if_pos d]
        · rw [if_neg d]
          exact hK x (by omega)
  have loop1 : ∀ J : zI, mC (cClr c) J → ∀ j i : Nat, i + j = 19683 → ∀ K : zI, (∀ x, x < i → K 1 x = 0) → (∀ o, o ≠ 1 → K o = J o) → zFr tB I K → zQ G 41 (n + 26) post 6 [some (.ref 0), some (.int (nI i))] [] K L (zR1 q) := by
    intro J hcl j
    induction j with
    | zero =>
      intro i hi K hK ho hf
      have hgK := mG_tB hg hf
      refine b41_6 (pk_le 19683 i (fun _ => b41_26 (c_first hgK ?_)) (fun z => absurd z (by omega)) rfl rfl (by omega) (by omega))
      have k1 : ∀ x, x < 19683 → K 1 x = 0 := fun x hx => hK x (by omega)
      refine c_goThrough (sDep g (sFirst g)) (sFirst g) (n + 26) K _ rfl (by omega) hgK (sR_first g) (fun p hp => Or.inl (k1 p hp)) (fun x hx h1 _ => absurd ((k1 x hx).symm.trans h1) (by decide)) ?_
      intro K2 mk2 fin2 one2 mono2 far2 oth2
      have hpos : mPos g K2 := mPos_go hg.1 mk2 (fun x hx h1 => by
        by_cases d : sDep g x ≤ sDep g (sFirst g)
        · exact fin2 x hx h1 d
        · have f := (far2 x (by omega)).1
          rw [f, k1 x hx] at h1
          exact absurd h1 (by decide)) one2
      have cl2 : mC (cClr c) K2 := mC_of hcl (by rw [oth2 5 (by decide) (by decide) (by decide), ho 5 (by decide)]) (by rw [oth2 4 (by decide) (by decide) (by decide), ho 4 (by decide)]) (by rw [oth2 0 (by decide) (by decide) (by decide), ho 0 (by decide)]) (by rw [oth2 0 (by decide) (by decide) (by decide), ho 0 (by decide)]) (by rw [oth2 0 (by decide) (by decide) (by decide), ho 0 (by decide)])
      have hf2 : zFr tB I K2 := fun o k z => by
        by_cases d1 : o = 1
        · subst d1; cases z
        · by_cases d2 : o = 2
          · subst d2; cases z
          · by_cases d3 : o = 3
            · subst d3; cases z
            · rw [oth2 o d1 d2 d3]
              exact hf o k z
      exact loop2 K2 hpos cl2 3 0 (by omega) K2 (fun x hx => absurd hx (by omega)) (fun _ _ => rfl) hf2
    | succ j ih =>
      intro i hi K hK ho hf
      refine b41_6 (pk_le 19683 i (fun z => absurd z (by omega)) (fun _ => And.intro (vp_in_nI (by omega) (by decide)) ?_) rfl rfl (by omega) (by omega))
      have qq := ih (i + 1) (by omega) (zup K 1 (nI i).toNatClampNeg (vp_nar .boolean 0)) (fun x hx => ?_) (fun o hh => by rw [zup_ne hh]; exact ho o hh) (zFr_up hf rfl)
      · rw [← nI_1] at qq
        exact qq
      · rw [nI_clamp (by omega), zup_eq, show vp_nar .boolean 0 = 0 by decide]
        by_cases d : x = i
        · rw [if_pos d]
        · rw [if_neg d]
          exact hK x (by omega)
  refine zin0 rfl rfl rfl (b41_0 (c_emptyAll hc hall he fun J hcl hf => ?_))
  exact loop1 J hcl 19683 0 (by omega) J (fun x hx => absurd hx (by omega)) (fun _ _ => rfl) (fun o k z => hf o k (tE_tB o k z))
end
