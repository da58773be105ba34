-- ===== the reference: forgetting what was kept, fresh beads set =====
section
variable {G : zG} {n : Nat} {I : zI} {L : zL} {q : zq} {post : zPo} {g : zg} {c : sC} {w : uW}
theorem c_forgetKept (h : ∀ I' : zI, (∀ i, i < 3 → I' 29 i = 0) → (∀ o, o ≠ 29 → I' o = I o) → post none I' L (zR1 q)) : zC G (n + 1) 58 [.ref 0] I L (zR1 q) post := by
  have key : ∀ j i : Nat, i + j = 3 → ∀ K : zI, (∀ x, x < i → K 29 x = 0) → (∀ o, o ≠ 29 → K o = I o) → zQ G 58 n post 2 [some (.ref 0), some (.int (nI i))] [] K L (zR1 q) := by
    intro j
    induction j with
    | zero =>
      intro i hi K hK ho
      exact b58_2 (pk_le 3 i (fun _ => b58_20 (h K (fun x hx => hK x (by omega)) ho)) (fun z => absurd z (by omega)) rfl rfl (by omega) (by omega))
    | succ j ih =>
      intro i hi K hK ho
      refine b58_2 (pk_le 3 i (fun z => absurd z (by omega)) (fun _ => And.intro (vp_in_nI (by omega) (by decide)) ?_) rfl rfl (by omega) (by omega))
      have qq := ih (i + 1) (by omega) (zup K 29 (nI i).toNatClampNeg (vp_nar .boolean 0)) (fun x hx => ?_) (fun o hh => by rw [zup_ne hh]; exact ho o hh)
      · rw [← nI_1] at qq
        exact qq
      · rw [nI_clamp (by omega), zup_eq, show vp_nar .boolean 0 = 0 by decide]
        by_cases d : x = i
        · rw [if_pos d]
        · rw [if_neg d]
          exact hK x (by omega)
  exact zin0 rfl rfl rfl (b58_0 (key 3 0 (by omega) I (fun _ hx => absurd hx (by omega)) (fun _ _ => rfl)))
end
