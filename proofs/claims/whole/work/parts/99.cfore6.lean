-- ===== the class: filling longs =====
section
variable {G : zG} {n : Nat} {I : zI} {L : zL} {R : zR} {post : zPo}
theorem k_fillL {v : Int64} (h : ∀ L' : zL, (∀ k, k < 3 → L' 93 k = v) → (∀ o', o' ≠ 93 → L' o' = L o') → post none I L' R) : zC G (n + 1) 126 [.ref 93, .long v] I L R post := by
  have key : ∀ j i (J : zL), i + j = 3 → (∀ k, k < i → J 93 k = v) → (∀ o', o' ≠ 93 → J o' = L o') → zQ G 126 n post 6 [some (.ref 93), some (.long v), none, some (.int (nI i)), some (.int (Int32.ofNat 3))] [] I J R := by
    intro j
    induction j with
    | zero =>
      intro i J hi hJ ho
      exact b126_6 (pk_le 3 i (fun _ => b126_22 (h J (fun k hk => hJ k (by omega)) ho)) (fun z => absurd z (by omega)) rfl rfl (by omega) (by omega))
    | succ j ih =>
      intro i J hi hJ ho
      refine b126_6 (pk_le 3 i (fun z => absurd z (by omega)) (fun _ => And.intro (vp_in_nI (by omega) (by decide)) ?_) rfl rfl (by omega) (by omega))
      rw [nI_clamp (by omega)]
      have qq := ih (i + 1) (zup J 93 i v) (by omega) (fun k hk => by
        rw [zup_eq]
        by_cases d : k = i
        · rw [if_pos d]
        · rw [if_neg d]
          exact hJ k (by omega)) (fun o' h' => by rw [zup_ne h']; exact ho o' h')
      rw [← nI_1] at qq
      exact qq
  exact zin0 rfl rfl rfl (b126_0 (key 3 0 L (by omega) (fun k hk => absurd hk (by omega)) (fun _ _ => rfl)))
end
