-- ===== the reference: which numbers are positions =====
section
variable {G : zG} {n : Nat} {I : zI} {L : zL} {q : zq} {post : zPo} {g : zg}
/-- the three arrays tell the positions of the game -/
def mPos (g : zg) (I : zI) : Prop := ∀ p, p < 19683 → (I 1 p = 1 ∧ sR g p ∧ I 2 p = nI (sWork g p) ∧ (sWork g p < 2 → I 3 p = nI (sVal g p))) ∨ (I 1 p = 0 ∧ ¬ sR g p)
theorem mPos_R {p : Nat} (hg : gOk g) (h : mPos g I) (hr : sR g p) : I 1 p = 1 ∧ I 2 p = nI (sWork g p) ∧ (sWork g p < 2 → I 3 p = nI (sVal g p)) := by
  rcases h p (sR_lt hg hr) with z | z
  · exact ⟨z.1, z.2.2.1, z.2.2.2⟩
  · exact absurd hr z.2
theorem mPos_of {I' : zI} (h : mPos g I) (h1 : I' 1 = I 1) (h2 : I' 2 = I 2) (h3 : I' 3 = I 3) : mPos g I' := fun p hp => by rw [h1, h2, h3]; exact h p hp
/-- what the going through leaves -/
theorem mPos_go {I' : zI} (hg : gOk g) (hmk : gMk g I') (hfin : ∀ x, x < 19683 → I' 1 x = 1 → gFin g I' x) (h1 : I' 1 (sFirst g) = 1) : mPos g I' := by
  have all : ∀ p, sR g p → I' 1 p = 1 := fun p hr => by
    have key := hr (fun x => sR g x ∧ I' 1 x = 1) ⟨sR_first g, h1⟩ (fun p m hp hw hc => ⟨sR_step hp.1 hw hc, (hfin p (sR_lt hg hp.1) hp.2 hw).2 m hc⟩)
    exact key.2
  intro p hp
  rcases hmk p hp with z | ⟨z, hr, hs⟩
  · refine Or.inr ⟨z, fun hr => ?_⟩
    rw [all p hr] at z
    exact absurd z (by decide)
  · exact Or.inl ⟨z, hr, hs, fun hw => (hfin p hp z hw).1⟩
theorem c_isPosition {x : Int32} (hg : gOk g) (hm : mPos g I) (h1 : ∀ p, x = nI p → sR g p → post (some (.int 1)) I L (zR1 q)) (h0 : (∀ p, x = nI p → p < 2 ^ 31 → ¬ sR g p) → post (some (.int 0)) I L (zR1 q)) : zC G (n + 2) 17 [.ref 0, .int x] I L (zR1 q) post := by
  refine zin0 rfl rfl rfl (b17_0 ?_)
  rcases pk_ix x (n := 19683) (by omega) with c | c | ⟨p, hp, rfl⟩
  · refine c_in ?_
    rw [decide_eq_false (fun z => Int32.not_lt.mpr z.1 c)]
    refine zbo_eq (fun _ => b17_24 (b17_25 (And.intro rfl (h0 fun p hx hlt hr => ?_)))) (fun z => absurd z (by decide))
    rw [hx] at c
    exact nI_pos hlt c
  · refine c_in ?_
    rw [decide_eq_false (fun z => by
      have w := Int32.le_trans c z.2
      exact absurd w (by decide))]
    refine zbo_eq (fun _ => b17_24 (b17_25 (And.intro rfl (h0 fun p hx hlt hr => ?_)))) (fun z => absurd z (by decide))
    rw [hx, nI_leI (by omega) hlt] at c
    have := sR_lt hg hr
    omega
  · refine c_inN (x := p) (lo := 0) (hi := 19682) rfl rfl rfl (by omega) (by omega) (by omega) ?_
    rw [decide_eq_true (by omega)]
    have ec : (nI p).toNatClampNeg = p := nI_clamp (by omega)
    refine zbo_eq (fun z => absurd z (by decide)) (fun _ => And.intro (vp_in_nI hp (by decide)) ?_)
    show (I 1 (nI p).toNatClampNeg = 0 → _) ∧ (¬ I 1 (nI p).toNatClampNeg = 0 → _)
    rw [ec]
    rcases hm p hp with ⟨z, hr, -⟩ | ⟨z, hr⟩
    · refine And.intro (fun w => absurd (w.symm.trans z) (by decide)) (fun _ => b17_25 (And.intro rfl (h1 p rfl hr)))
    · refine And.intro (fun _ => b17_24 (b17_25 (And.intro rfl (h0 fun p' hx hlt => ?_)))) (fun w => absurd z w)
      rw [← (nI_eq (by omega) hlt).mp hx]
      exact hr
theorem c_goesOn {x : Int32} (hg : gOk g) (hm : mPos g I) (h1 : ∀ p, x = nI p → sR g p → sWork g p < 2 → post (some (.int 1)) I L (zR1 q)) (h0 : (∀ p, x = nI p → p < 2 ^ 31 → sR g p → 2 ≤ sWork g p) → post (some (.int 0)) I L (zR1 q)) : zC G (n + 3) 18 [.ref 0, .int x] I L (zR1 q) post := by
  refine zin0 rfl rfl rfl (b18_0 (c_isPosition hg hm (fun p hx hr => ?_) (fun hn => ?_)))
  · subst hx
    have hp := sR_lt hg hr
    have ec : (nI p).toNatClampNeg = p := nI_clamp (by omega)
    have hw4 := sWork_le g p
    refine And.intro (fun z => absurd z (by decide)) (fun _ => And.intro (vp_in_nI hp (by decide)) ?_)
    refine pk_le 2 (sWork g p) (fun z => b18_22 (b18_23 (And.intro rfl (h0 fun p' hx hlt _ => ?_)))) (fun z => b18_23 (And.intro rfl (h1 p rfl hr z))) rfl (by rw [ec]; exact (mPos_R hg hm hr).2.1) (by omega) (by omega)
    rw [← (nI_eq (by omega) hlt).mp hx]
    exact z
  · refine And.intro (fun _ => b18_22 (b18_23 (And.intro rfl (h0 fun p hx hlt hr => absurd hr (hn p hx hlt))))) (fun z => absurd rfl z)
end
