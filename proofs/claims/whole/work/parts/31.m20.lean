-- ===== the reference: how a game ended =====
/-- the end of an ended position, to the chest: 2 won, 1 drawn, 0 lost -/
def sEnd (g : zg) (p : Nat) : Nat := if sWork g p = 4 then 1 else if sWork g p - 2 = g 8 then 2 else 0
section
variable {G : zG} {n : Nat} {I : zI} {L : zL} {q : zq} {post : zPo} {g : zg} {c : sC} {w : uW}
theorem c_endOf_stuck {x : Int32} {b : Nat} (hb : b < 2 ^ 31) (h : post (some (.int 0)) I L (zR1 q)) : zC G (n + 1) 87 [.ref 0, .int x, .int (nI b)] I L (zR1 q) post := by
  have hne : ¬ nI b = -1 := fun z => by
    have h1 := nI_pos' hb
    rw [z] at h1
    exact absurd h1 (by decide)
  exact zin0 rfl rfl rfl (b87_0 (And.intro (fun z => absurd z hne) (fun _ => h)))
theorem c_endOf {p : Nat} (hg : mG g I) (hm : mPos g I) (hr : sR g p) (hw : 2 ≤ sWork g p) (h : post (some (.int (nI (sEnd g p)))) I L (zR1 q)) : zC G (n + 1) 87 [.ref 0, .int (nI p), .int (-1)] I L (zR1 q) post := by
  have hp := sR_lt hg.1 hr
  have h4 := sWork_le g p
  have h8 : g 8 ≤ 1 := hg.1.2.2.2.2.2.2.2.2
  have e : I 2 (nI p).toNatClampNeg = nI (sWork g p) := by rw [nI_clamp (by omega)]; exact (mPos_R hg.1 hm hr).2.1
  have inb : vp_in (nI p) 19683 := vp_in_nI hp (by decide)
  refine zin0 rfl rfl rfl (b87_0 (And.intro (fun _ => b87_7 (And.intro inb ?_)) (fun z => absurd rfl z)))
  refine (fun z : _ ∧ _ => And.intro z.2 z.1) (pk_eq (sWork g p) 4 (fun z => b87_41 ?_) (fun z => b87_21 (And.intro inb ?_)) e rfl (by omega) (by omega))
  · rw [show sEnd g p = 1 by unfold sEnd; rw [if_pos z]] at h
    exact h
  · refine (fun z : _ ∧ _ => And.intro z.2 z.1) (pk_eq (sWork g p - 2) (g 8) (fun z2 => b87_41 ?_) (fun z2 => b87_40 (b87_41 ?_)) (by rw [e]; exact pk_sub (b := 2) hw) (mG0 hg 8 (by decide)) (by omega) (by omega))
    · rw [show sEnd g p = 2 by unfold sEnd; rw [if_neg z, if_pos z2]] at h
      exact h
    · rw [show sEnd g p = 0 by unfold sEnd; rw [if_neg z, if_neg z2]] at h
      exact h
end
